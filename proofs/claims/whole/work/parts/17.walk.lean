/-! walks (printed) -/
theorem wX9_has_b33 (E : pEv) (z : Int32) (t0 : Int32) (m : pMem) (hf : sX9_has_b33 t0 m = some z) : gM E kX9_has (z, m) 33 [] [.int t0] m := by
  unfold sX9_has_b33 at hf
  exact g_ret dX9_has_33 rfl rfl (by rw [Option.some.inj hf])
theorem wX9_has_b0 (E : pEv) (z : Int32) (a1 : Int32) (a2 : Int32) (m : pMem) (hf : sX9_has a1 a2 m = some z) : gM E kX9_has (z, m) 0 [(0, .ref (eA E 9)), (1, .int a1), (2, .int a2)] [] m := by
  unfold sX9_has at hf
  refine g_aload_n (q := 0) dX9_has_0 rfl rfl ?_
  refine g_iload_n (q := 1) dX9_has_1 rfl rfl ?_
  obtain ⟨r1, q2, hf⟩ := cbR_ hf
  refine g_cV (As := [.int a1]) dX9_has_2 (tX9_isLand E m a1 q2) gyX9_isLand giX9_isLand gsX9_isLand mX9_187 (⟨rfl, rfl, Nat.le_of_ble_eq_true rfl, Nat.le_of_ble_eq_true rfl, Nat.le_of_ble_eq_true rfl, Nat.le_of_ble_eq_true rfl⟩) rfl (obX9 E m) rfl rfl rfl (Nat.le_of_ble_eq_true rfl) ?_
  refine g_if_ne (tgt := 11) dX9_has_5 (by decide) (fun c3 => ?_) (fun c3 => ?_)
  · have hf := it_ hf c3
    refine g_iload_n (q := 2) dX9_has_11 rfl rfl ?_
    obtain ⟨r4, q5, hf⟩ := cbR_ hf
    refine g_cS (As := [.int a2]) dX9_has_12 (tX9_isDay E m a2 q5) gyX9_isDay giX9_isDay mX9_165 (⟨rfl, rfl, Nat.le_of_ble_eq_true rfl, Nat.le_of_ble_eq_true rfl, Nat.le_of_ble_eq_true rfl, Nat.le_of_ble_eq_true rfl⟩) rfl rfl rfl (Nat.le_of_ble_eq_true rfl) ?_
    refine g_if_eq (tgt := 31) dX9_has_15 (by decide) (fun c6 => ?_) (fun c6 => ?_)
    · have hf := it_ hf c6
      refine g_bipush (v := (-3)) dX9_has_31 kB_m3 ?_
      refine g_lv [] rfl ?_
      exact wX9_has_b33 E z  (-3) m hf
    · have hf := ie_ hf c6
      refine g_aload_n (q := 0) dX9_has_18 rfl rfl ?_
      refine g_iload_n (q := 1) dX9_has_19 rfl rfl ?_
      refine g_aload_n (q := 0) dX9_has_20 rfl rfl ?_
      refine g_iload_n (q := 2) dX9_has_21 rfl rfl ?_
      obtain ⟨r7, q8, hf⟩ := cbR_ hf
      refine g_cV (As := [.int a2]) dX9_has_22 (tX9_doneBy E m a2 q8) gyX9_doneBy giX9_doneBy gsX9_doneBy mX9_183 (⟨rfl, rfl, Nat.le_of_ble_eq_true rfl, Nat.le_of_ble_eq_true rfl, Nat.le_of_ble_eq_true rfl, Nat.le_of_ble_eq_true rfl⟩) rfl (obX9 E m) rfl rfl rfl (Nat.le_of_ble_eq_true rfl) ?_
      obtain ⟨r9, q10, hf⟩ := cbR_ hf
      refine g_cV (As := [.int a1, .int r7]) dX9_has_25 (tX9_groundsOf E m a1 r7 q10) gyX9_groundsOf giX9_groundsOf gsX9_groundsOf mX9_155 (⟨rfl, rfl, Nat.le_of_ble_eq_true rfl, Nat.le_of_ble_eq_true rfl, Nat.le_of_ble_eq_true rfl, Nat.le_of_ble_eq_true rfl⟩) rfl (obX9 E m) rfl rfl rfl (Nat.le_of_ble_eq_true rfl) ?_
      refine g_goto (tgt := 33) dX9_has_28 (by decide) ?_
      refine g_lv [] rfl ?_
      exact wX9_has_b33 E z  r9 m hf
  · have hf := ie_ hf (not_not_intro c3)
    refine g_bipush (v := (-2)) dX9_has_8 kB_m2 ?_
    exact g_ret dX9_has_10 rfl rfl (by rw [Option.some.inj hf])
theorem tX9_has (E : pEv) (m : pMem) (a1 : Int32) (a2 : Int32) {z : Int32} (hf : sX9_has a1 a2 m = some z) : gCn E yX9_has kX9_has [.ref (eA E 9), .int a1, .int a2] m (z, m) := gCn_of (by decide +kernel) rfl rfl rfl (Nat.le_of_ble_eq_true rfl) rfl (wX9_has_b0 E z a1 a2 m  hf)
theorem wX9_heirOf_b46 (E : pEv) (z : Int32) (k20 : Int32 → Int32 → Int32 → Int32 → pMem → (Option Int32)) (ih20 : ∀ (l1 : Int32) (l3 : Int32) (l4 : Int32) (l5 : Int32)  (m : pMem), k20 l1 l3 l4 l5 m = some z → gM E kX9_heirOf (z, m) 20 [(0, .ref (eA E 9)), (1, .int l1), (3, .int l3), (4, .int l4), (5, .int l5)] [] m) (l1 : Int32) (l3 : Int32) (l5 : Int32) (t0 : Int32) (m : pMem) (hf : sX9_heirOf_b46 k20 l1 l3 l5 t0 m = some z) : gM E kX9_heirOf (z, m) 46 [(0, .ref (eA E 9)), (1, .int l1), (3, .int l3), (5, .int l5)] [.int t0] m := by
  unfold sX9_heirOf_b46 at hf
  refine g_istore dX9_heirOf_46 (Nat.le_of_ble_eq_true rfl) rfl ?_
  refine g_iinc (q := 4) (v := l5 + 1) dX9_heirOf_48 rfl (by rw [kI_1]) (Nat.le_of_ble_eq_true rfl) rfl ?_
  refine g_goto (tgt := 20) dX9_heirOf_51 (by decide) ?_
  refine g_lv [2, 3, 4, 1, 0] rfl ?_
  exact ih20 l1 l3 t0 (l5 + 1) m hf
theorem wX9_heirOf_b41 (E : pEv) (z : Int32) (k20 : Int32 → Int32 → Int32 → Int32 → pMem → (Option Int32)) (ih20 : ∀ (l1 : Int32) (l3 : Int32) (l4 : Int32) (l5 : Int32)  (m : pMem), k20 l1 l3 l4 l5 m = some z → gM E kX9_heirOf (z, m) 20 [(0, .ref (eA E 9)), (1, .int l1), (3, .int l3), (4, .int l4), (5, .int l5)] [] m) (l1 : Int32) (l3 : Int32) (l5 : Int32) (m : pMem) (hf : sX9_heirOf_b41 k20 l1 l3 l5 m = some z) : gM E kX9_heirOf (z, m) 41 [(0, .ref (eA E 9)), (1, .int l1), (3, .int l3), (5, .int l5)] [] m := by
  unfold sX9_heirOf_b41 at hf
  refine g_iconst (v := 1) dX9_heirOf_41 kI_1 ?_
  refine g_goto (tgt := 46) dX9_heirOf_42 (by decide) ?_
  exact wX9_heirOf_b46 E z k20 ih20 l1 l3 l5 1 m hf
theorem wX9_heirOf_b192 (E : pEv) (z : Int32) (k67 : Int32 → Int32 → Int32 → pMem → (Option Int32)) (ih67 : ∀ (l3 : Int32) (l5 : Int32) (l6 : Int32)  (m : pMem), k67 l3 l5 l6 m = some z → gM E kX9_heirOf (z, m) 67 [(0, .ref (eA E 9)), (3, .int l3), (5, .int l5), (6, .int l6)] [] m) (l3 : Int32) (l5 : Int32) (l6 : Int32) (m : pMem) (hf : sX9_heirOf_b192 k67 l3 l5 l6 m = some z) : gM E kX9_heirOf (z, m) 192 [(0, .ref (eA E 9)), (3, .int l3), (5, .int l5), (6, .int l6)] [] m := by
  unfold sX9_heirOf_b192 at hf
  refine g_iinc (q := 3) (v := l6 + 1) dX9_heirOf_192 rfl (by rw [kI_1]) (Nat.le_of_ble_eq_true rfl) rfl ?_
  refine g_goto (tgt := 67) dX9_heirOf_195 (by decide) ?_
  refine g_lv [1, 2, 3, 0] rfl ?_
  exact ih67 l3 l5 (l6 + 1) m hf
theorem wX9_heirOf_b160 (E : pEv) (z : Int32) (k67 : Int32 → Int32 → Int32 → pMem → (Option Int32)) (ih67 : ∀ (l3 : Int32) (l5 : Int32) (l6 : Int32)  (m : pMem), k67 l3 l5 l6 m = some z → gM E kX9_heirOf (z, m) 67 [(0, .ref (eA E 9)), (3, .int l3), (5, .int l5), (6, .int l6)] [] m) (l3 : Int32) (l5 : Int32) (l6 : Int32) (m : pMem) (hf : sX9_heirOf_b160 k67 l3 l5 l6 m = some z) : gM E kX9_heirOf (z, m) 160 [(0, .ref (eA E 9)), (3, .int l3), (5, .int l5), (6, .int l6)] [] m := by
  unfold sX9_heirOf_b160 at hf
  refine g_aload_n (q := 0) dX9_heirOf_160 rfl rfl ?_
  refine g_get dX9_heirOf_161 fX9_26 (obX9 E m) (gvX9_7 E m) ?_
  refine g_iload (q := 3) dX9_heirOf_164 rfl ?_
  obtain ⟨h26, hf⟩ := gd_ hf
  refine g_iald dX9_heirOf_166 ar_68 h26 ?_
  refine g_iconst (v := 2) dX9_heirOf_167 kI_2 ?_
  refine g_icmp_ne (tgt := 192) dX9_heirOf_168 (by decide) (fun c27 => ?_) (fun c27 => ?_)
  · have hf := it_ hf c27
    exact wX9_heirOf_b192 E z k67 ih67 l3 l5 l6 m hf
  · have hf := ie_ hf (not_not_intro c27)
    refine g_aload_n (q := 0) dX9_heirOf_171 rfl rfl ?_
    refine g_get dX9_heirOf_172 fX9_35 (obX9 E m) (gvX9_10 E m) ?_
    refine g_iload (q := 3) dX9_heirOf_175 rfl ?_
    obtain ⟨h28, hf⟩ := gd_ hf
    refine g_iald dX9_heirOf_177 ar_71 h28 ?_
    refine g_iload (q := 2) dX9_heirOf_178 rfl ?_
    refine g_icmp_ne (tgt := 192) dX9_heirOf_180 (by decide) (fun c29 => ?_) (fun c29 => ?_)
    · have hf := it_ hf c29
      exact wX9_heirOf_b192 E z k67 ih67 l3 l5 l6 m hf
    · have hf := ie_ hf (not_not_intro c29)
      refine g_aload_n (q := 0) dX9_heirOf_183 rfl rfl ?_
      refine g_get dX9_heirOf_184 fX9_32 (obX9 E m) (gvX9_9 E m) ?_
      refine g_iload (q := 3) dX9_heirOf_187 rfl ?_
      obtain ⟨h30, hf⟩ := gd_ hf
      refine g_iald dX9_heirOf_189 ar_70 h30 ?_
      refine nmI hf (fun x31 hf => ?_)
      refine g_istore dX9_heirOf_190 (Nat.le_of_ble_eq_true rfl) rfl ?_
      refine g_lv [1, 2, 0, 3] rfl ?_
      exact wX9_heirOf_b192 E z k67 ih67 l3 x31 l6 m hf
theorem wX9_heirOf_b155 (E : pEv) (z : Int32) (k67 : Int32 → Int32 → Int32 → pMem → (Option Int32)) (ih67 : ∀ (l3 : Int32) (l5 : Int32) (l6 : Int32)  (m : pMem), k67 l3 l5 l6 m = some z → gM E kX9_heirOf (z, m) 67 [(0, .ref (eA E 9)), (3, .int l3), (5, .int l5), (6, .int l6)] [] m) (l3 : Int32) (l6 : Int32) (t0 : Int32) (m : pMem) (hf : sX9_heirOf_b155 k67 l3 l6 t0 m = some z) : gM E kX9_heirOf (z, m) 155 [(0, .ref (eA E 9)), (3, .int l3), (6, .int l6)] [.int t0] m := by
  unfold sX9_heirOf_b155 at hf
  refine g_istore dX9_heirOf_155 (Nat.le_of_ble_eq_true rfl) rfl ?_
  refine g_goto (tgt := 192) dX9_heirOf_157 (by decide) ?_
  refine g_lv [1, 2, 0, 3] rfl ?_
  exact wX9_heirOf_b192 E z k67 ih67 l3 t0 l6 m hf
theorem wX9_heirOf_b67 (E : pEv) (z : Int32) (k67 : Int32 → Int32 → Int32 → pMem → (Option Int32)) (ih67 : ∀ (l3 : Int32) (l5 : Int32) (l6 : Int32)  (m : pMem), k67 l3 l5 l6 m = some z → gM E kX9_heirOf (z, m) 67 [(0, .ref (eA E 9)), (3, .int l3), (5, .int l5), (6, .int l6)] [] m) (l3 : Int32) (l5 : Int32) (l6 : Int32) (m : pMem) (hf : sX9_heirOf_b67 k67 l3 l5 l6 m = some z) : gM E kX9_heirOf (z, m) 67 [(0, .ref (eA E 9)), (3, .int l3), (5, .int l5), (6, .int l6)] [] m := by
  unfold sX9_heirOf_b67 at hf
  refine g_iload (q := 3) dX9_heirOf_67 rfl ?_
  refine g_iload_n (q := 1) dX9_heirOf_69 rfl rfl ?_
  refine g_icmp_ge (tgt := 198) dX9_heirOf_70 (by decide) (fun c10 => ?_) (fun c10 => ?_)
  · have hf := it_ hf c10
    refine g_iload (q := 2) dX9_heirOf_198 rfl ?_
    exact g_ret dX9_heirOf_200 rfl rfl (by rw [Option.some.inj hf])
  · have hf := ie_ hf c10
    refine g_aload_n (q := 0) dX9_heirOf_73 rfl rfl ?_
    refine g_get dX9_heirOf_74 fX9_26 (obX9 E m) (gvX9_7 E m) ?_
    refine g_iload (q := 3) dX9_heirOf_77 rfl ?_
    obtain ⟨h11, hf⟩ := gd_ hf
    refine g_iald dX9_heirOf_79 ar_68 h11 ?_
    refine g_iconst (v := 1) dX9_heirOf_80 kI_1 ?_
    refine g_icmp_ne (tgt := 160) dX9_heirOf_81 (by decide) (fun c12 => ?_) (fun c12 => ?_)
    · have hf := it_ hf c12
      exact wX9_heirOf_b160 E z k67 ih67 l3 l5 l6 m hf
    · have hf := ie_ hf (not_not_intro c12)
      refine g_aload_n (q := 0) dX9_heirOf_84 rfl rfl ?_
      refine g_get dX9_heirOf_85 fX9_32 (obX9 E m) (gvX9_9 E m) ?_
      refine g_iload (q := 3) dX9_heirOf_88 rfl ?_
      obtain ⟨h13, hf⟩ := gd_ hf
      refine g_iald dX9_heirOf_90 ar_70 h13 ?_
      refine g_iload (q := 2) dX9_heirOf_91 rfl ?_
      refine g_icmp_ne (tgt := 160) dX9_heirOf_93 (by decide) (fun c14 => ?_) (fun c14 => ?_)
      · have hf := it_ hf c14
        exact wX9_heirOf_b160 E z k67 ih67 l3 l5 l6 m hf
      · have hf := ie_ hf (not_not_intro c14)
        refine g_aload_n (q := 0) dX9_heirOf_96 rfl rfl ?_
        refine g_iload (q := 2) dX9_heirOf_97 rfl ?_
        refine g_iload (q := 3) dX9_heirOf_99 rfl ?_
        obtain ⟨r15, q16, hf⟩ := cbR_ hf
        refine g_cV (As := [.int l5, .int l6]) dX9_heirOf_101 (tX9_groundsOf E m l5 l6 q16) gyX9_groundsOf giX9_groundsOf gsX9_groundsOf mX9_155 (⟨rfl, rfl, Nat.le_of_ble_eq_true rfl, Nat.le_of_ble_eq_true rfl, Nat.le_of_ble_eq_true rfl, Nat.le_of_ble_eq_true rfl⟩) rfl (obX9 E m) rfl rfl rfl (Nat.le_of_ble_eq_true rfl) ?_
        refine g_istore dX9_heirOf_104 (Nat.le_of_ble_eq_true rfl) rfl ?_
        refine g_aload_n (q := 1) dX9_heirOf_106 rfl rfl ?_
        refine g_aload_n (q := 1) dX9_heirOf_107 rfl rfl ?_
        refine g_get dX9_heirOf_108 fX9_38 (obX9 E m) (gvX9_11 E m) ?_
        refine g_iload (q := 4) dX9_heirOf_111 rfl ?_
        obtain ⟨h17, hf⟩ := gd_ hf
        refine g_iald dX9_heirOf_113 ar_72 h17 ?_
        obtain ⟨r18, q19, hf⟩ := cbR_ hf
        refine g_cV (As := [.int (m.1 72 l6.toNatClampNeg)]) dX9_heirOf_114 (tX9_headsOf E m (m.1 72 l6.toNatClampNeg) q19) gyX9_headsOf giX9_headsOf gsX9_headsOf mX9_196 (⟨rfl, rfl, Nat.le_of_ble_eq_true rfl, Nat.le_of_ble_eq_true rfl, Nat.le_of_ble_eq_true rfl, Nat.le_of_ble_eq_true rfl⟩) rfl (obX9 E m) rfl rfl rfl (Nat.le_of_ble_eq_true rfl) ?_
        refine g_aload_n (q := 1) dX9_heirOf_117 rfl rfl ?_
        refine g_iload (q := 0) dX9_heirOf_118 rfl ?_
        refine g_aload_n (q := 1) dX9_heirOf_120 rfl rfl ?_
        refine g_get dX9_heirOf_121 fX9_38 (obX9 E m) (gvX9_11 E m) ?_
        refine g_iload (q := 4) dX9_heirOf_124 rfl ?_
        obtain ⟨h20, hf⟩ := gd_ hf
        refine g_iald dX9_heirOf_126 ar_72 h20 ?_
        refine g_iconst (v := (-1)) dX9_heirOf_127 kI_m1 ?_
        refine g_ixor dX9_heirOf_128 ?_
        refine g_iand dX9_heirOf_129 ?_
        obtain ⟨r21, q22, hf⟩ := cbR_ hf
        refine g_cV (As := [.int (r15 &&& ((m.1 72 l6.toNatClampNeg) ^^^ (-1 : Int32)))]) dX9_heirOf_130 (tX9_headsOf E m (r15 &&& ((m.1 72 l6.toNatClampNeg) ^^^ (-1 : Int32))) q22) gyX9_headsOf giX9_headsOf gsX9_headsOf mX9_196 (⟨rfl, rfl, Nat.le_of_ble_eq_true rfl, Nat.le_of_ble_eq_true rfl, Nat.le_of_ble_eq_true rfl, Nat.le_of_ble_eq_true rfl⟩) rfl (obX9 E m) rfl rfl rfl (Nat.le_of_ble_eq_true rfl) ?_
        refine g_icmp_lt (tgt := 146) dX9_heirOf_133 (by decide) (fun c23 => ?_) (fun c23 => ?_)
        · have hf := it_ hf c23
          refine g_aload_n (q := 1) dX9_heirOf_146 rfl rfl ?_
          refine g_get dX9_heirOf_147 fX9_41 (obX9 E m) (gvX9_12 E m) ?_
          refine g_iload (q := 4) dX9_heirOf_150 rfl ?_
          obtain ⟨h24, hf⟩ := gd_ hf
          refine g_iald dX9_heirOf_152 ar_73 h24 ?_
          refine g_iconst (v := 1) dX9_heirOf_153 kI_1 ?_
          refine g_iadd dX9_heirOf_154 ?_
          refine g_lv [1, 2, 4] rfl ?_
          exact wX9_heirOf_b155 E z k67 ih67 l3 l6 ((m.1 73 l6.toNatClampNeg) + (1 : Int32)) m hf
        · have hf := ie_ hf c23
          refine g_aload_n (q := 1) dX9_heirOf_136 rfl rfl ?_
          refine g_get dX9_heirOf_137 fX9_41 (obX9 E m) (gvX9_12 E m) ?_
          refine g_iload (q := 4) dX9_heirOf_140 rfl ?_
          obtain ⟨h25, hf⟩ := gd_ hf
          refine g_iald dX9_heirOf_142 ar_73 h25 ?_
          refine g_goto (tgt := 155) dX9_heirOf_143 (by decide) ?_
          refine g_lv [1, 2, 4] rfl ?_
          exact wX9_heirOf_b155 E z k67 ih67 l3 l6 (m.1 73 l6.toNatClampNeg) m hf
theorem wX9_heirOf_l67 (E : pEv) (z : Int32) : ∀ (n : Nat) (l3 : Int32) (l5 : Int32) (l6 : Int32) (m : pMem), sX9_heirOf_l67 n l3 l5 l6 m = some z → gM E kX9_heirOf (z, m) 67 [(0, .ref (eA E 9)), (3, .int l3), (5, .int l5), (6, .int l6)] [] m := by
  intro n
  induction n with
  | zero => intro l3 l5 l6 m  hf; cases (show (none : Option _) = some z from hf)
  | succ n ih => intro l3 l5 l6 m  hf; exact wX9_heirOf_b67 E z  _  ih l3 l5 l6 m  hf
theorem wX9_heirOf_b20 (E : pEv) (z : Int32) (k20 : Int32 → Int32 → Int32 → Int32 → pMem → (Option Int32)) (ih20 : ∀ (l1 : Int32) (l3 : Int32) (l4 : Int32) (l5 : Int32)  (m : pMem), k20 l1 l3 l4 l5 m = some z → gM E kX9_heirOf (z, m) 20 [(0, .ref (eA E 9)), (1, .int l1), (3, .int l3), (4, .int l4), (5, .int l5)] [] m) (l1 : Int32) (l3 : Int32) (l4 : Int32) (l5 : Int32) (m : pMem) (hf : sX9_heirOf_b20 k20 l1 l3 l4 l5 m = some z) : gM E kX9_heirOf (z, m) 20 [(0, .ref (eA E 9)), (1, .int l1), (3, .int l3), (4, .int l4), (5, .int l5)] [] m := by
  unfold sX9_heirOf_b20 at hf
  refine g_iload (q := 4) dX9_heirOf_20 rfl ?_
  refine g_iload_n (q := 2) dX9_heirOf_22 rfl rfl ?_
  refine g_icmp_ge (tgt := 54) dX9_heirOf_23 (by decide) (fun c4 => ?_) (fun c4 => ?_)
  · have hf := it_ hf c4
    refine g_iload (q := 3) dX9_heirOf_54 rfl ?_
    refine g_if_ne (tgt := 61) dX9_heirOf_56 (by decide) (fun c5 => ?_) (fun c5 => ?_)
    · have hf := it_ hf c5
      refine g_iload_n (q := 1) dX9_heirOf_61 rfl rfl ?_
      refine g_istore dX9_heirOf_62 (Nat.le_of_ble_eq_true rfl) rfl ?_
      refine g_iconst (v := 0) dX9_heirOf_64 kI_0 ?_
      refine g_istore dX9_heirOf_65 (Nat.le_of_ble_eq_true rfl) rfl ?_
      refine g_lv [2, 4, 1, 0] rfl ?_
      exact wX9_heirOf_l67 E z  5000 l3 l1 0 m hf
    · have hf := ie_ hf (not_not_intro c5)
      refine g_iconst (v := (-1)) dX9_heirOf_59 kI_m1 ?_
      exact g_ret dX9_heirOf_60 rfl rfl (by rw [Option.some.inj hf])
  · have hf := ie_ hf c4
    refine g_iload (q := 3) dX9_heirOf_26 rfl ?_
    refine g_if_ne (tgt := 41) dX9_heirOf_28 (by decide) (fun c6 => ?_) (fun c6 => ?_)
    · have hf := it_ hf c6
      refine g_lv [0, 1, 2, 4] rfl ?_
      exact wX9_heirOf_b41 E z k20 ih20 l1 l3 l5 m hf
    · have hf := ie_ hf (not_not_intro c6)
      refine g_aload_n (q := 0) dX9_heirOf_31 rfl rfl ?_
      refine g_iload_n (q := 1) dX9_heirOf_32 rfl rfl ?_
      refine g_iload (q := 4) dX9_heirOf_33 rfl ?_
      obtain ⟨r7, q8, hf⟩ := cbR_ hf
      refine g_cV (As := [.int l1, .int l5]) dX9_heirOf_35 (tX9_comesBy E m l1 l5 q8) gyX9_comesBy giX9_comesBy gsX9_comesBy mX9_193 (⟨rfl, rfl, Nat.le_of_ble_eq_true rfl, Nat.le_of_ble_eq_true rfl, Nat.le_of_ble_eq_true rfl, Nat.le_of_ble_eq_true rfl⟩) rfl (obX9 E m) rfl rfl rfl (Nat.le_of_ble_eq_true rfl) ?_
      refine g_if_eq (tgt := 45) dX9_heirOf_38 (by decide) (fun c9 => ?_) (fun c9 => ?_)
      · have hf := it_ hf c9
        refine g_iconst (v := 0) dX9_heirOf_45 kI_0 ?_
        refine g_lv [0, 1, 2, 4] rfl ?_
        exact wX9_heirOf_b46 E z k20 ih20 l1 l3 l5 0 m hf
      · have hf := ie_ hf c9
        refine g_lv [0, 1, 2, 4] rfl ?_
        exact wX9_heirOf_b41 E z k20 ih20 l1 l3 l5 m hf
theorem wX9_heirOf_l20 (E : pEv) (z : Int32) : ∀ (n : Nat) (l1 : Int32) (l3 : Int32) (l4 : Int32) (l5 : Int32) (m : pMem), sX9_heirOf_l20 n l1 l3 l4 l5 m = some z → gM E kX9_heirOf (z, m) 20 [(0, .ref (eA E 9)), (1, .int l1), (3, .int l3), (4, .int l4), (5, .int l5)] [] m := by
  intro n
  induction n with
  | zero => intro l1 l3 l4 l5 m  hf; cases (show (none : Option _) = some z from hf)
  | succ n ih => intro l1 l3 l4 l5 m  hf; exact wX9_heirOf_b20 E z  _  ih l1 l3 l4 l5 m  hf
theorem wX9_heirOf_b15 (E : pEv) (z : Int32) (l1 : Int32) (l3 : Int32) (t0 : Int32) (m : pMem) (hf : sX9_heirOf_b15 l1 l3 t0 m = some z) : gM E kX9_heirOf (z, m) 15 [(0, .ref (eA E 9)), (1, .int l1), (3, .int l3)] [.int t0] m := by
  unfold sX9_heirOf_b15 at hf
  refine g_istore dX9_heirOf_15 (Nat.le_of_ble_eq_true rfl) rfl ?_
  refine g_iconst (v := 0) dX9_heirOf_17 kI_0 ?_
  refine g_istore dX9_heirOf_18 (Nat.le_of_ble_eq_true rfl) rfl ?_
  refine g_lv [2, 3, 4, 1, 0] rfl ?_
  exact wX9_heirOf_l20 E z  5000 l1 l3 t0 0 m hf
theorem wX9_heirOf_b0 (E : pEv) (z : Int32) (a1 : Int32) (a2 : Int32) (m : pMem) (hf : sX9_heirOf a1 a2 m = some z) : gM E kX9_heirOf (z, m) 0 [(0, .ref (eA E 9)), (1, .int a1), (2, .int a2)] [] m := by
  unfold sX9_heirOf at hf
  refine g_aload_n (q := 0) dX9_heirOf_0 rfl rfl ?_
  refine g_iload_n (q := 2) dX9_heirOf_1 rfl rfl ?_
  obtain ⟨r1, q2, hf⟩ := cbR_ hf
  refine g_cV (As := [.int a2]) dX9_heirOf_2 (tX9_doneBy E m a2 q2) gyX9_doneBy giX9_doneBy gsX9_doneBy mX9_183 (⟨rfl, rfl, Nat.le_of_ble_eq_true rfl, Nat.le_of_ble_eq_true rfl, Nat.le_of_ble_eq_true rfl, Nat.le_of_ble_eq_true rfl⟩) rfl (obX9 E m) rfl rfl rfl (Nat.le_of_ble_eq_true rfl) ?_
  refine g_istore_n dX9_heirOf_5 rfl (Nat.le_of_ble_eq_true rfl) rfl ?_
  refine g_iload_n (q := 2) dX9_heirOf_6 rfl rfl ?_
  refine g_if_ne (tgt := 14) dX9_heirOf_7 (by decide) (fun c3 => ?_) (fun c3 => ?_)
  · have hf := it_ hf c3
    refine g_iconst (v := 0) dX9_heirOf_14 kI_0 ?_
    refine g_lv [1, 2, 0] rfl ?_
    exact wX9_heirOf_b15 E z  a1 r1 0 m hf
  · have hf := ie_ hf (not_not_intro c3)
    refine g_iconst (v := 1) dX9_heirOf_10 kI_1 ?_
    refine g_goto (tgt := 15) dX9_heirOf_11 (by decide) ?_
    refine g_lv [1, 2, 0] rfl ?_
    exact wX9_heirOf_b15 E z  a1 r1 1 m hf
theorem tX9_heirOf (E : pEv) (m : pMem) (a1 : Int32) (a2 : Int32) {z : Int32} (hf : sX9_heirOf a1 a2 m = some z) : gCn E yX9_heirOf kX9_heirOf [.ref (eA E 9), .int a1, .int a2] m (z, m) := gCn_of (by decide +kernel) rfl rfl rfl (Nat.le_of_ble_eq_true rfl) rfl (wX9_heirOf_b0 E z a1 a2 m  hf)
theorem wX9_heir_b29 (E : pEv) (z : Int32) (t0 : Int32) (m : pMem) (hf : sX9_heir_b29 t0 m = some z) : gM E kX9_heir (z, m) 29 [] [.int t0] m := by
  unfold sX9_heir_b29 at hf
  exact g_ret dX9_heir_29 rfl rfl (by rw [Option.some.inj hf])
theorem wX9_heir_b0 (E : pEv) (z : Int32) (a1 : Int32) (a2 : Int32) (m : pMem) (hf : sX9_heir a1 a2 m = some z) : gM E kX9_heir (z, m) 0 [(0, .ref (eA E 9)), (1, .int a1), (2, .int a2)] [] m := by
  unfold sX9_heir at hf
  refine g_aload_n (q := 0) dX9_heir_0 rfl rfl ?_
  refine g_iload_n (q := 1) dX9_heir_1 rfl rfl ?_
  obtain ⟨r1, q2, hf⟩ := cbR_ hf
  refine g_cV (As := [.int a1]) dX9_heir_2 (tX9_isLand E m a1 q2) gyX9_isLand giX9_isLand gsX9_isLand mX9_187 (⟨rfl, rfl, Nat.le_of_ble_eq_true rfl, Nat.le_of_ble_eq_true rfl, Nat.le_of_ble_eq_true rfl, Nat.le_of_ble_eq_true rfl⟩) rfl (obX9 E m) rfl rfl rfl (Nat.le_of_ble_eq_true rfl) ?_
  refine g_if_ne (tgt := 11) dX9_heir_5 (by decide) (fun c3 => ?_) (fun c3 => ?_)
  · have hf := it_ hf c3
    refine g_iload_n (q := 2) dX9_heir_11 rfl rfl ?_
    obtain ⟨r4, q5, hf⟩ := cbR_ hf
    refine g_cS (As := [.int a2]) dX9_heir_12 (tX9_isDay E m a2 q5) gyX9_isDay giX9_isDay mX9_165 (⟨rfl, rfl, Nat.le_of_ble_eq_true rfl, Nat.le_of_ble_eq_true rfl, Nat.le_of_ble_eq_true rfl, Nat.le_of_ble_eq_true rfl⟩) rfl rfl rfl (Nat.le_of_ble_eq_true rfl) ?_
    refine g_if_eq (tgt := 27) dX9_heir_15 (by decide) (fun c6 => ?_) (fun c6 => ?_)
    · have hf := it_ hf c6
      refine g_bipush (v := (-3)) dX9_heir_27 kB_m3 ?_
      refine g_lv [] rfl ?_
      exact wX9_heir_b29 E z  (-3) m hf
    · have hf := ie_ hf c6
      refine g_aload_n (q := 0) dX9_heir_18 rfl rfl ?_
      refine g_iload_n (q := 1) dX9_heir_19 rfl rfl ?_
      refine g_iload_n (q := 2) dX9_heir_20 rfl rfl ?_
      obtain ⟨r7, q8, hf⟩ := cbR_ hf
      refine g_cV (As := [.int a1, .int a2]) dX9_heir_21 (tX9_heirOf E m a1 a2 q8) gyX9_heirOf giX9_heirOf gsX9_heirOf mX9_199 (⟨rfl, rfl, Nat.le_of_ble_eq_true rfl, Nat.le_of_ble_eq_true rfl, Nat.le_of_ble_eq_true rfl, Nat.le_of_ble_eq_true rfl⟩) rfl (obX9 E m) rfl rfl rfl (Nat.le_of_ble_eq_true rfl) ?_
      refine g_goto (tgt := 29) dX9_heir_24 (by decide) ?_
      refine g_lv [] rfl ?_
      exact wX9_heir_b29 E z  r7 m hf
  · have hf := ie_ hf (not_not_intro c3)
    refine g_bipush (v := (-2)) dX9_heir_8 kB_m2 ?_
    exact g_ret dX9_heir_10 rfl rfl (by rw [Option.some.inj hf])
theorem tX9_heir (E : pEv) (m : pMem) (a1 : Int32) (a2 : Int32) {z : Int32} (hf : sX9_heir a1 a2 m = some z) : gCn E yX9_heir kX9_heir [.ref (eA E 9), .int a1, .int a2] m (z, m) := gCn_of (by decide +kernel) rfl rfl rfl (Nat.le_of_ble_eq_true rfl) rfl (wX9_heir_b0 E z a1 a2 m  hf)
theorem wX9_isThird_b0 (E : pEv) (z : Int32) (a1 : Int32) (m : pMem) (hf : sX9_isThird a1 m = some z) : gM E kX9_isThird (z, m) 0 [(0, .int a1)] [] m := by
  unfold sX9_isThird at hf
  refine g_iload_n (q := 0) dX9_isThird_0 rfl rfl ?_
  refine g_iconst (v := 0) dX9_isThird_1 kI_0 ?_
  refine g_iconst (v := 5) dX9_isThird_2 kI_5 ?_
  obtain ⟨r1, q2, hf⟩ := cbR_ hf
  refine g_cS (As := [.int a1, .int 0, .int 5]) dX9_isThird_3 (tX9_in E m a1 0 5 q2) gyX9_in giX9_in mX9_148 (⟨rfl, rfl, Nat.le_of_ble_eq_true rfl, Nat.le_of_ble_eq_true rfl, Nat.le_of_ble_eq_true rfl, Nat.le_of_ble_eq_true rfl⟩) rfl rfl rfl (Nat.le_of_ble_eq_true rfl) ?_
  exact g_retz dX9_isThird_6 rfl (by rw [Option.some.inj hf])
theorem tX9_isThird (E : pEv) (m : pMem) (a1 : Int32) {z : Int32} (hf : sX9_isThird a1 m = some z) : gCn E yX9_isThird kX9_isThird [.int a1] m (z, m) := gCn_of (by decide +kernel) rfl rfl rfl (Nat.le_of_ble_eq_true rfl) rfl (wX9_isThird_b0 E z a1 m  hf)
theorem wX9_lands_b22 (E : pEv) (z : Int32) (t0 : Int32) (m : pMem) (hf : sX9_lands_b22 t0 m = some z) : gM E kX9_lands (z, m) 22 [] [.int t0] m := by
  unfold sX9_lands_b22 at hf
  exact g_ret dX9_lands_22 rfl rfl (by rw [Option.some.inj hf])
theorem wX9_lands_b0 (E : pEv) (z : Int32) (a1 : Int32) (m : pMem) (hf : sX9_lands a1 m = some z) : gM E kX9_lands (z, m) 0 [(0, .ref (eA E 9)), (1, .int a1)] [] m := by
  unfold sX9_lands at hf
  refine g_iload_n (q := 1) dX9_lands_0 rfl rfl ?_
  obtain ⟨r1, q2, hf⟩ := cbR_ hf
  refine g_cS (As := [.int a1]) dX9_lands_1 (tX9_isDay E m a1 q2) gyX9_isDay giX9_isDay mX9_165 (⟨rfl, rfl, Nat.le_of_ble_eq_true rfl, Nat.le_of_ble_eq_true rfl, Nat.le_of_ble_eq_true rfl, Nat.le_of_ble_eq_true rfl⟩) rfl rfl rfl (Nat.le_of_ble_eq_true rfl) ?_
  refine g_if_eq (tgt := 20) dX9_lands_4 (by decide) (fun c3 => ?_) (fun c3 => ?_)
  · have hf := it_ hf c3
    refine g_bipush (v := (-3)) dX9_lands_20 kB_m3 ?_
    refine g_lv [] rfl ?_
    exact wX9_lands_b22 E z  (-3) m hf
  · have hf := ie_ hf c3
    refine g_aload_n (q := 0) dX9_lands_7 rfl rfl ?_
    refine g_get dX9_lands_8 fX9_47 (obX9 E m) (gvX9_14 E m) ?_
    refine g_aload_n (q := 0) dX9_lands_11 rfl rfl ?_
    refine g_iload_n (q := 1) dX9_lands_12 rfl rfl ?_
    obtain ⟨r4, q5, hf⟩ := cbR_ hf
    refine g_cV (As := [.int a1]) dX9_lands_13 (tX9_doneBy E m a1 q5) gyX9_doneBy giX9_doneBy gsX9_doneBy mX9_183 (⟨rfl, rfl, Nat.le_of_ble_eq_true rfl, Nat.le_of_ble_eq_true rfl, Nat.le_of_ble_eq_true rfl, Nat.le_of_ble_eq_true rfl⟩) rfl (obX9 E m) rfl rfl rfl (Nat.le_of_ble_eq_true rfl) ?_
    obtain ⟨h6, hf⟩ := gd_ hf
    refine g_iald dX9_lands_16 ar_75 h6 ?_
    refine g_goto (tgt := 22) dX9_lands_17 (by decide) ?_
    refine g_lv [] rfl ?_
    exact wX9_lands_b22 E z  (m.1 75 r4.toNatClampNeg) m hf
theorem tX9_lands (E : pEv) (m : pMem) (a1 : Int32) {z : Int32} (hf : sX9_lands a1 m = some z) : gCn E yX9_lands kX9_lands [.ref (eA E 9), .int a1] m (z, m) := gCn_of (by decide +kernel) rfl rfl rfl (Nat.le_of_ble_eq_true rfl) rfl (wX9_lands_b0 E z a1 m  hf)
theorem wX9_owes_b50 (E : pEv) (z : Int32 × pMem) (t0 : Int32) (m : pMem) (hf : sX9_owes_b50 t0 m = some z) : gM E kX9_owes z 50 [] [.int t0] m := by
  unfold sX9_owes_b50 at hf
  exact g_ret dX9_owes_50 rfl rfl (Option.some.inj hf).symm
theorem wX9_owes_b22 (E : pEv) (z : Int32 × pMem) (m : pMem) (hf : sX9_owes_b22  m = some z) : gM E kX9_owes z 22 [] [] m := by
  unfold sX9_owes_b22 at hf
  refine g_bipush (v := (-2)) dX9_owes_22 kB_m2 ?_
  exact g_ret dX9_owes_24 rfl rfl (Option.some.inj hf).symm
theorem wX9_owes_b0 (E : pEv) (z : Int32 × pMem) (a1 : Int32) (a2 : Int32) (a3 : Int32) (m : pMem) (hf : sX9_owes a1 a2 a3 m = some z) : gM E kX9_owes z 0 [(0, .ref (eA E 9)), (1, .int a1), (2, .int a2), (3, .int a3)] [] m := by
  unfold sX9_owes at hf
  refine g_iload_n (q := 1) dX9_owes_0 rfl rfl ?_
  refine g_iconst (v := 0) dX9_owes_1 kI_0 ?_
  refine g_aload_n (q := 0) dX9_owes_2 rfl rfl ?_
  refine g_get dX9_owes_3 fX9_162 (obX9 E m) (gvX9_46 E m) ?_
  refine g_iconst (v := 1) dX9_owes_6 kI_1 ?_
  refine g_isub dX9_owes_7 ?_
  obtain ⟨r1, q2, hf⟩ := cbR_ hf
  refine g_cS (As := [.int a1, .int 0, .int ((m.1 9 46) - (1 : Int32))]) dX9_owes_8 (tX9_in E m a1 0 ((m.1 9 46) - (1 : Int32)) q2) gyX9_in giX9_in mX9_148 (⟨rfl, rfl, Nat.le_of_ble_eq_true rfl, Nat.le_of_ble_eq_true rfl, Nat.le_of_ble_eq_true rfl, Nat.le_of_ble_eq_true rfl⟩) rfl rfl rfl (Nat.le_of_ble_eq_true rfl) ?_
  refine g_if_eq (tgt := 22) dX9_owes_11 (by decide) (fun c3 => ?_) (fun c3 => ?_)
  · have hf := it_ hf c3
    refine g_lv [] rfl ?_
    exact wX9_owes_b22 E z  m hf
  · have hf := ie_ hf c3
    refine g_aload_n (q := 0) dX9_owes_14 rfl rfl ?_
    refine g_iload_n (q := 2) dX9_owes_15 rfl rfl ?_
    obtain ⟨r4, q5, hf⟩ := cbR_ hf
    refine g_cV (As := [.int a2]) dX9_owes_16 (tX9_isLand E m a2 q5) gyX9_isLand giX9_isLand gsX9_isLand mX9_187 (⟨rfl, rfl, Nat.le_of_ble_eq_true rfl, Nat.le_of_ble_eq_true rfl, Nat.le_of_ble_eq_true rfl, Nat.le_of_ble_eq_true rfl⟩) rfl (obX9 E m) rfl rfl rfl (Nat.le_of_ble_eq_true rfl) ?_
    refine g_if_ne (tgt := 25) dX9_owes_19 (by decide) (fun c6 => ?_) (fun c6 => ?_)
    · have hf := it_ hf c6
      refine g_iload_n (q := 3) dX9_owes_25 rfl rfl ?_
      obtain ⟨r7, q8, hf⟩ := cbR_ hf
      refine g_cS (As := [.int a3]) dX9_owes_26 (tX9_isDay E m a3 q8) gyX9_isDay giX9_isDay mX9_165 (⟨rfl, rfl, Nat.le_of_ble_eq_true rfl, Nat.le_of_ble_eq_true rfl, Nat.le_of_ble_eq_true rfl, Nat.le_of_ble_eq_true rfl⟩) rfl rfl rfl (Nat.le_of_ble_eq_true rfl) ?_
      refine g_if_eq (tgt := 48) dX9_owes_29 (by decide) (fun c9 => ?_) (fun c9 => ?_)
      · have hf := it_ hf c9
        refine g_bipush (v := (-3)) dX9_owes_48 kB_m3 ?_
        refine g_lv [] rfl ?_
        exact wX9_owes_b50 E z  (-3) m hf
      · have hf := ie_ hf c9
        refine g_aload_n (q := 0) dX9_owes_32 rfl rfl ?_
        refine g_iload_n (q := 1) dX9_owes_33 rfl rfl ?_
        refine g_iload_n (q := 2) dX9_owes_34 rfl rfl ?_
        refine g_iload_n (q := 3) dX9_owes_35 rfl rfl ?_
        refine g_aload_n (q := 0) dX9_owes_36 rfl rfl ?_
        refine g_get dX9_owes_37 fX9_56 (obX9 E m) (gvX9_25 E m) ?_
        refine g_iconst (v := 3) dX9_owes_40 kI_3 ?_
        refine g_iald dX9_owes_41 ar_78 (by decide) ?_
        obtain ⟨r10, m12, q11, hf⟩ := cbE_ hf
        refine g_cV (As := [.int a1, .int a2, .int a3, .int (m.1 78 ((3 : Int32).toNatClampNeg))]) dX9_owes_42 (tX9_owesOf E m a1 a2 a3 (m.1 78 ((3 : Int32).toNatClampNeg)) q11) gyX9_owesOf giX9_owesOf gsX9_owesOf mX9_341 (⟨rfl, rfl, Nat.le_of_ble_eq_true rfl, Nat.le_of_ble_eq_true rfl, Nat.le_of_ble_eq_true rfl, Nat.le_of_ble_eq_true rfl⟩) rfl (obX9 E m) rfl rfl rfl (Nat.le_of_ble_eq_true rfl) ?_
        refine g_goto (tgt := 50) dX9_owes_45 (by decide) ?_
        refine g_lv [] rfl ?_
        exact wX9_owes_b50 E z  r10 m12 hf
    · have hf := ie_ hf (not_not_intro c6)
      refine g_lv [] rfl ?_
      exact wX9_owes_b22 E z  m hf
theorem tX9_owes (E : pEv) (m : pMem) (a1 : Int32) (a2 : Int32) (a3 : Int32) {z : Int32 × pMem} (hf : sX9_owes a1 a2 a3 m = some z) : gCn E yX9_owes kX9_owes [.ref (eA E 9), .int a1, .int a2, .int a3] m z := gCn_of (by decide +kernel) rfl rfl rfl (Nat.le_of_ble_eq_true rfl) rfl (wX9_owes_b0 E z a1 a2 a3 m  hf)
theorem wX9_owns_b50 (E : pEv) (z : Int32 × pMem) (t0 : Int32) (m : pMem) (hf : sX9_owns_b50 t0 m = some z) : gM E kX9_owns z 50 [] [.int t0] m := by
  unfold sX9_owns_b50 at hf
  exact g_ret dX9_owns_50 rfl rfl (Option.some.inj hf).symm
theorem wX9_owns_b22 (E : pEv) (z : Int32 × pMem) (m : pMem) (hf : sX9_owns_b22  m = some z) : gM E kX9_owns z 22 [] [] m := by
  unfold sX9_owns_b22 at hf
  refine g_bipush (v := (-2)) dX9_owns_22 kB_m2 ?_
  exact g_ret dX9_owns_24 rfl rfl (Option.some.inj hf).symm
theorem wX9_owns_b0 (E : pEv) (z : Int32 × pMem) (a1 : Int32) (a2 : Int32) (a3 : Int32) (m : pMem) (hf : sX9_owns a1 a2 a3 m = some z) : gM E kX9_owns z 0 [(0, .ref (eA E 9)), (1, .int a1), (2, .int a2), (3, .int a3)] [] m := by
  unfold sX9_owns at hf
  refine g_iload_n (q := 1) dX9_owns_0 rfl rfl ?_
  refine g_iconst (v := 0) dX9_owns_1 kI_0 ?_
  refine g_aload_n (q := 0) dX9_owns_2 rfl rfl ?_
  refine g_get dX9_owns_3 fX9_345 (obX9 E m) (gvX9_51 E m) ?_
  refine g_iconst (v := 1) dX9_owns_6 kI_1 ?_
  refine g_isub dX9_owns_7 ?_
  obtain ⟨r1, q2, hf⟩ := cbR_ hf
  refine g_cS (As := [.int a1, .int 0, .int ((m.1 9 51) - (1 : Int32))]) dX9_owns_8 (tX9_in E m a1 0 ((m.1 9 51) - (1 : Int32)) q2) gyX9_in giX9_in mX9_148 (⟨rfl, rfl, Nat.le_of_ble_eq_true rfl, Nat.le_of_ble_eq_true rfl, Nat.le_of_ble_eq_true rfl, Nat.le_of_ble_eq_true rfl⟩) rfl rfl rfl (Nat.le_of_ble_eq_true rfl) ?_
  refine g_if_eq (tgt := 22) dX9_owns_11 (by decide) (fun c3 => ?_) (fun c3 => ?_)
  · have hf := it_ hf c3
    refine g_lv [] rfl ?_
    exact wX9_owns_b22 E z  m hf
  · have hf := ie_ hf c3
    refine g_aload_n (q := 0) dX9_owns_14 rfl rfl ?_
    refine g_iload_n (q := 2) dX9_owns_15 rfl rfl ?_
    obtain ⟨r4, q5, hf⟩ := cbR_ hf
    refine g_cV (As := [.int a2]) dX9_owns_16 (tX9_isLand E m a2 q5) gyX9_isLand giX9_isLand gsX9_isLand mX9_187 (⟨rfl, rfl, Nat.le_of_ble_eq_true rfl, Nat.le_of_ble_eq_true rfl, Nat.le_of_ble_eq_true rfl, Nat.le_of_ble_eq_true rfl⟩) rfl (obX9 E m) rfl rfl rfl (Nat.le_of_ble_eq_true rfl) ?_
    refine g_if_ne (tgt := 25) dX9_owns_19 (by decide) (fun c6 => ?_) (fun c6 => ?_)
    · have hf := it_ hf c6
      refine g_iload_n (q := 3) dX9_owns_25 rfl rfl ?_
      obtain ⟨r7, q8, hf⟩ := cbR_ hf
      refine g_cS (As := [.int a3]) dX9_owns_26 (tX9_isDay E m a3 q8) gyX9_isDay giX9_isDay mX9_165 (⟨rfl, rfl, Nat.le_of_ble_eq_true rfl, Nat.le_of_ble_eq_true rfl, Nat.le_of_ble_eq_true rfl, Nat.le_of_ble_eq_true rfl⟩) rfl rfl rfl (Nat.le_of_ble_eq_true rfl) ?_
      refine g_if_eq (tgt := 48) dX9_owns_29 (by decide) (fun c9 => ?_) (fun c9 => ?_)
      · have hf := it_ hf c9
        refine g_bipush (v := (-3)) dX9_owns_48 kB_m3 ?_
        refine g_lv [] rfl ?_
        exact wX9_owns_b50 E z  (-3) m hf
      · have hf := ie_ hf c9
        refine g_aload_n (q := 0) dX9_owns_32 rfl rfl ?_
        refine g_iload_n (q := 1) dX9_owns_33 rfl rfl ?_
        refine g_iload_n (q := 2) dX9_owns_34 rfl rfl ?_
        refine g_iload_n (q := 3) dX9_owns_35 rfl rfl ?_
        refine g_aload_n (q := 0) dX9_owns_36 rfl rfl ?_
        refine g_get dX9_owns_37 fX9_56 (obX9 E m) (gvX9_25 E m) ?_
        refine g_iconst (v := 3) dX9_owns_40 kI_3 ?_
        refine g_iald dX9_owns_41 ar_78 (by decide) ?_
        obtain ⟨r10, m12, q11, hf⟩ := cbE_ hf
        refine g_cV (As := [.int a1, .int a2, .int a3, .int (m.1 78 ((3 : Int32).toNatClampNeg))]) dX9_owns_42 (tX9_ownsOf E m a1 a2 a3 (m.1 78 ((3 : Int32).toNatClampNeg)) q11) gyX9_ownsOf giX9_ownsOf gsX9_ownsOf mX9_351 (⟨rfl, rfl, Nat.le_of_ble_eq_true rfl, Nat.le_of_ble_eq_true rfl, Nat.le_of_ble_eq_true rfl, Nat.le_of_ble_eq_true rfl⟩) rfl (obX9 E m) rfl rfl rfl (Nat.le_of_ble_eq_true rfl) ?_
        refine g_goto (tgt := 50) dX9_owns_45 (by decide) ?_
        refine g_lv [] rfl ?_
        exact wX9_owns_b50 E z  r10 m12 hf
    · have hf := ie_ hf (not_not_intro c6)
      refine g_lv [] rfl ?_
      exact wX9_owns_b22 E z  m hf
theorem tX9_owns (E : pEv) (m : pMem) (a1 : Int32) (a2 : Int32) (a3 : Int32) {z : Int32 × pMem} (hf : sX9_owns a1 a2 a3 m = some z) : gCn E yX9_owns kX9_owns [.ref (eA E 9), .int a1, .int a2, .int a3] m z := gCn_of (by decide +kernel) rfl rfl rfl (Nat.le_of_ble_eq_true rfl) rfl (wX9_owns_b0 E z a1 a2 a3 m  hf)
theorem wX9_pact_b28 (E : pEv) (z : Int32 × pMem) (m : pMem) (hf : sX9_pact_b28  m = some z) : gM E kX9_pact z 28 [] [] m := by
  unfold sX9_pact_b28 at hf
  refine g_bipush (v := (-2)) dX9_pact_28 kB_m2 ?_
  exact g_ret dX9_pact_30 rfl rfl (Option.some.inj hf).symm
theorem wX9_pact_b48 (E : pEv) (z : Int32 × pMem) (m : pMem) (hf : sX9_pact_b48  m = some z) : gM E kX9_pact z 48 [] [] m := by
  unfold sX9_pact_b48 at hf
  refine g_bipush (v := (-3)) dX9_pact_48 kB_m3 ?_
  exact g_ret dX9_pact_50 rfl rfl (Option.some.inj hf).symm
theorem wX9_pact_b90 (E : pEv) (z : Int32 × pMem) (m : pMem) (hf : sX9_pact_b90  m = some z) : gM E kX9_pact z 90 [] [] m := by
  unfold sX9_pact_b90 at hf
  refine g_bipush (v := (-4)) dX9_pact_90 kB_m4 ?_
  exact g_ret dX9_pact_92 rfl rfl (Option.some.inj hf).symm
theorem wX9_pact_b93 (E : pEv) (z : Int32 × pMem) (l1 : Int32) (l2 : Int32) (l3 : Int32) (l4 : Int32) (l5 : Int32) (m : pMem) (hf : sX9_pact_b93 l1 l2 l3 l4 l5 m = some z) : gM E kX9_pact z 93 [(0, .ref (eA E 9)), (1, .int l1), (2, .int l2), (3, .int l3), (4, .int l4), (5, .int l5)] [] m := by
  unfold sX9_pact_b93 at hf
  refine g_aload_n (q := 0) dX9_pact_93 rfl rfl ?_
  refine g_get dX9_pact_94 fX9_159 (obX9 E m) (gvX9_26 E m) ?_
  refine g_bipush (v := 12) dX9_pact_97 kB_12 ?_
  refine g_icmp_ne (tgt := 105) dX9_pact_99 (by decide) (fun c25 => ?_) (fun c25 => ?_)
  · have hf := it_ hf c25
    refine g_aload_n (q := 0) dX9_pact_105 rfl rfl ?_
    refine g_get dX9_pact_106 fX9_59 (obX9 E m) (gvX9_27 E m) ?_
    refine g_aload_n (q := 0) dX9_pact_109 rfl rfl ?_
    refine g_get dX9_pact_110 fX9_159 (obX9 E m) (gvX9_26 E m) ?_
    refine g_iload_n (q := 1) dX9_pact_113 rfl rfl ?_
    obtain ⟨h26, hf⟩ := gd_ hf
    refine g_iast dX9_pact_114 ar_79 h26 ?_
    refine nmG hf (fun m27 hf => ?_)
    refine g_aload_n (q := 0) dX9_pact_115 rfl rfl ?_
    refine g_get dX9_pact_116 fX9_62 (obX9 E m27) (gvX9_28 E m27) ?_
    refine g_aload_n (q := 0) dX9_pact_119 rfl rfl ?_
    refine g_get dX9_pact_120 fX9_159 (obX9 E m27) (gvX9_26 E m27) ?_
    refine g_iload_n (q := 2) dX9_pact_123 rfl rfl ?_
    obtain ⟨h28, hf⟩ := gd_ hf
    refine g_iast dX9_pact_124 ar_80 h28 ?_
    refine nmG hf (fun m29 hf => ?_)
    refine g_aload_n (q := 0) dX9_pact_125 rfl rfl ?_
    refine g_get dX9_pact_126 fX9_65 (obX9 E m29) (gvX9_29 E m29) ?_
    refine g_aload_n (q := 0) dX9_pact_129 rfl rfl ?_
    refine g_get dX9_pact_130 fX9_159 (obX9 E m29) (gvX9_26 E m29) ?_
    refine g_iload_n (q := 3) dX9_pact_133 rfl rfl ?_
    obtain ⟨h30, hf⟩ := gd_ hf
    refine g_iast dX9_pact_134 ar_81 h30 ?_
    refine nmG hf (fun m31 hf => ?_)
    refine g_aload_n (q := 0) dX9_pact_135 rfl rfl ?_
    refine g_get dX9_pact_136 fX9_68 (obX9 E m31) (gvX9_30 E m31) ?_
    refine g_aload_n (q := 0) dX9_pact_139 rfl rfl ?_
    refine g_get dX9_pact_140 fX9_159 (obX9 E m31) (gvX9_26 E m31) ?_
    refine g_iload (q := 4) dX9_pact_143 rfl ?_
    obtain ⟨h32, hf⟩ := gd_ hf
    refine g_iast dX9_pact_145 ar_82 h32 ?_
    refine nmG hf (fun m33 hf => ?_)
    refine g_aload_n (q := 0) dX9_pact_146 rfl rfl ?_
    refine g_get dX9_pact_147 fX9_71 (obX9 E m33) (gvX9_31 E m33) ?_
    refine g_aload_n (q := 0) dX9_pact_150 rfl rfl ?_
    refine g_get dX9_pact_151 fX9_159 (obX9 E m33) (gvX9_26 E m33) ?_
    refine g_iload (q := 5) dX9_pact_154 rfl ?_
    obtain ⟨h34, hf⟩ := gd_ hf
    refine g_iast dX9_pact_156 ar_83 h34 ?_
    refine nmG hf (fun m35 hf => ?_)
    refine g_aload_n (q := 0) dX9_pact_157 rfl rfl ?_
    refine g_dup dX9_pact_158 rfl ?_
    refine g_get dX9_pact_159 fX9_159 (obX9 E m35) (gvX9_26 E m35) ?_
    refine g_iconst (v := 1) dX9_pact_162 kI_1 ?_
    refine g_iadd dX9_pact_163 ?_
    refine g_put dX9_pact_164 fX9_159 fwX9_26 rfl rfl (obX9 E m35) (Nat.le_of_ble_eq_true rfl) (psX9_26 E m35 _) ?_
    refine nmG hf (fun m36 hf => ?_)
    refine g_aload_n (q := 0) dX9_pact_167 rfl rfl ?_
    refine g_get dX9_pact_168 fX9_159 (obX9 E m36) (gvX9_26 E m36) ?_
    refine g_iconst (v := 1) dX9_pact_171 kI_1 ?_
    refine g_isub dX9_pact_172 ?_
    exact g_ret dX9_pact_173 rfl rfl (Option.some.inj hf).symm
  · have hf := ie_ hf (not_not_intro c25)
    refine g_bipush (v := (-5)) dX9_pact_102 kB_m5 ?_
    exact g_ret dX9_pact_104 rfl rfl (Option.some.inj hf).symm
theorem wX9_pact_b31 (E : pEv) (z : Int32 × pMem) (l1 : Int32) (l2 : Int32) (l3 : Int32) (l4 : Int32) (l5 : Int32) (m : pMem) (hf : sX9_pact_b31 l1 l2 l3 l4 l5 m = some z) : gM E kX9_pact z 31 [(0, .ref (eA E 9)), (1, .int l1), (2, .int l2), (3, .int l3), (4, .int l4), (5, .int l5)] [] m := by
  unfold sX9_pact_b31 at hf
  refine g_iload_n (q := 1) dX9_pact_31 rfl rfl ?_
  refine g_iconst (v := 0) dX9_pact_32 kI_0 ?_
  refine g_iconst (v := 2) dX9_pact_33 kI_2 ?_
  obtain ⟨r11, q12, hf⟩ := cbR_ hf
  refine g_cS (As := [.int l1, .int 0, .int 2]) dX9_pact_34 (tX9_in E m l1 0 2 q12) gyX9_in giX9_in mX9_148 (⟨rfl, rfl, Nat.le_of_ble_eq_true rfl, Nat.le_of_ble_eq_true rfl, Nat.le_of_ble_eq_true rfl, Nat.le_of_ble_eq_true rfl⟩) rfl rfl rfl (Nat.le_of_ble_eq_true rfl) ?_
  refine g_if_eq (tgt := 48) dX9_pact_37 (by decide) (fun c13 => ?_) (fun c13 => ?_)
  · have hf := it_ hf c13
    refine g_lv [] rfl ?_
    exact wX9_pact_b48 E z  m hf
  · have hf := ie_ hf c13
    refine g_iload (q := 5) dX9_pact_40 rfl ?_
    obtain ⟨r14, q15, hf⟩ := cbR_ hf
    refine g_cS (As := [.int l5]) dX9_pact_42 (tX9_isDay E m l5 q15) gyX9_isDay giX9_isDay mX9_165 (⟨rfl, rfl, Nat.le_of_ble_eq_true rfl, Nat.le_of_ble_eq_true rfl, Nat.le_of_ble_eq_true rfl, Nat.le_of_ble_eq_true rfl⟩) rfl rfl rfl (Nat.le_of_ble_eq_true rfl) ?_
    refine g_if_ne (tgt := 51) dX9_pact_45 (by decide) (fun c16 => ?_) (fun c16 => ?_)
    · have hf := it_ hf c16
      refine g_aload_n (q := 0) dX9_pact_51 rfl rfl ?_
      refine g_iload (q := 5) dX9_pact_52 rfl ?_
      obtain ⟨r17, q18, hf⟩ := cbR_ hf
      refine g_cV (As := [.int l5]) dX9_pact_54 (tX9_doneBy E m l5 q18) gyX9_doneBy giX9_doneBy gsX9_doneBy mX9_183 (⟨rfl, rfl, Nat.le_of_ble_eq_true rfl, Nat.le_of_ble_eq_true rfl, Nat.le_of_ble_eq_true rfl, Nat.le_of_ble_eq_true rfl⟩) rfl (obX9 E m) rfl rfl rfl (Nat.le_of_ble_eq_true rfl) ?_
      refine g_istore dX9_pact_57 (Nat.le_of_ble_eq_true rfl) rfl ?_
      refine g_aload_n (q := 1) dX9_pact_59 rfl rfl ?_
      refine g_iload_n (q := 3) dX9_pact_60 rfl rfl ?_
      refine g_iload (q := 0) dX9_pact_61 rfl ?_
      obtain ⟨r19, q20, hf⟩ := cbR_ hf
      refine g_cV (As := [.int l2, .int r17]) dX9_pact_63 (tX9_isThere E m l2 r17 q20) gyX9_isThere giX9_isThere gsX9_isThere mX9_172 (⟨rfl, rfl, Nat.le_of_ble_eq_true rfl, Nat.le_of_ble_eq_true rfl, Nat.le_of_ble_eq_true rfl, Nat.le_of_ble_eq_true rfl⟩) rfl (obX9 E m) rfl rfl rfl (Nat.le_of_ble_eq_true rfl) ?_
      refine g_if_eq (tgt := 90) dX9_pact_66 (by decide) (fun c21 => ?_) (fun c21 => ?_)
      · have hf := it_ hf c21
        refine g_lv [] rfl ?_
        exact wX9_pact_b90 E z  m hf
      · have hf := ie_ hf c21
        refine g_iload_n (q := 2) dX9_pact_69 rfl rfl ?_
        refine g_if_ne (tgt := 93) dX9_pact_70 (by decide) (fun c22 => ?_) (fun c22 => ?_)
        · have hf := it_ hf c22
          refine g_lv [1, 2, 3, 4, 5, 6] rfl ?_
          exact wX9_pact_b93 E z  l1 l2 l3 l4 l5 m hf
        · have hf := ie_ hf (not_not_intro c22)
          refine g_aload_n (q := 1) dX9_pact_73 rfl rfl ?_
          refine g_get dX9_pact_74 fX9_44 (obX9 E m) (gvX9_13 E m) ?_
          refine g_bipush (v := 8) dX9_pact_77 kB_8 ?_
          refine g_iload (q := 0) dX9_pact_79 rfl ?_
          refine g_imul dX9_pact_81 ?_
          refine g_iload (q := 5) dX9_pact_82 rfl ?_
          refine g_iadd dX9_pact_84 ?_
          obtain ⟨h23, hf⟩ := gd_ hf
          refine g_iald dX9_pact_85 ar_74 h23 ?_
          refine g_iload_n (q := 3) dX9_pact_86 rfl rfl ?_
          refine g_icmp_eq (tgt := 93) dX9_pact_87 (by decide) (fun c24 => ?_) (fun c24 => ?_)
          · have hf := it_ hf c24
            refine g_lv [1, 2, 3, 4, 5, 6] rfl ?_
            exact wX9_pact_b93 E z  l1 l2 l3 l4 l5 m hf
          · have hf := ie_ hf c24
            refine g_lv [] rfl ?_
            exact wX9_pact_b90 E z  m hf
    · have hf := ie_ hf (not_not_intro c16)
      refine g_lv [] rfl ?_
      exact wX9_pact_b48 E z  m hf
theorem wX9_pact_b0 (E : pEv) (z : Int32 × pMem) (a1 : Int32) (a2 : Int32) (a3 : Int32) (a4 : Int32) (a5 : Int32) (m : pMem) (hf : sX9_pact a1 a2 a3 a4 a5 m = some z) : gM E kX9_pact z 0 [(0, .ref (eA E 9)), (1, .int a1), (2, .int a2), (3, .int a3), (4, .int a4), (5, .int a5)] [] m := by
  unfold sX9_pact at hf
  refine g_aload_n (q := 0) dX9_pact_0 rfl rfl ?_
  refine g_iload_n (q := 2) dX9_pact_1 rfl rfl ?_
  obtain ⟨r1, q2, hf⟩ := cbR_ hf
  refine g_cV (As := [.int a2]) dX9_pact_2 (tX9_isLand E m a2 q2) gyX9_isLand giX9_isLand gsX9_isLand mX9_187 (⟨rfl, rfl, Nat.le_of_ble_eq_true rfl, Nat.le_of_ble_eq_true rfl, Nat.le_of_ble_eq_true rfl, Nat.le_of_ble_eq_true rfl⟩) rfl (obX9 E m) rfl rfl rfl (Nat.le_of_ble_eq_true rfl) ?_
  refine g_if_eq (tgt := 28) dX9_pact_5 (by decide) (fun c3 => ?_) (fun c3 => ?_)
  · have hf := it_ hf c3
    refine g_lv [] rfl ?_
    exact wX9_pact_b28 E z  m hf
  · have hf := ie_ hf c3
    refine g_iload_n (q := 3) dX9_pact_8 rfl rfl ?_
    obtain ⟨r4, q5, hf⟩ := cbR_ hf
    refine g_cS (As := [.int a3]) dX9_pact_9 (tX9_isThird E m a3 q5) gyX9_isThird giX9_isThird mX9_286 (⟨rfl, rfl, Nat.le_of_ble_eq_true rfl, Nat.le_of_ble_eq_true rfl, Nat.le_of_ble_eq_true rfl, Nat.le_of_ble_eq_true rfl⟩) rfl rfl rfl (Nat.le_of_ble_eq_true rfl) ?_
    refine g_if_eq (tgt := 28) dX9_pact_12 (by decide) (fun c6 => ?_) (fun c6 => ?_)
    · have hf := it_ hf c6
      refine g_lv [] rfl ?_
      exact wX9_pact_b28 E z  m hf
    · have hf := ie_ hf c6
      refine g_iload_n (q := 1) dX9_pact_15 rfl rfl ?_
      refine g_if_ne (tgt := 31) dX9_pact_16 (by decide) (fun c7 => ?_) (fun c7 => ?_)
      · have hf := it_ hf c7
        exact wX9_pact_b31 E z  a1 a2 a3 a4 a5 m hf
      · have hf := ie_ hf (not_not_intro c7)
        refine g_aload_n (q := 0) dX9_pact_19 rfl rfl ?_
        refine g_iload (q := 4) dX9_pact_20 rfl ?_
        obtain ⟨r8, q9, hf⟩ := cbR_ hf
        refine g_cV (As := [.int a4]) dX9_pact_22 (tX9_isGround E m a4 q9) gyX9_isGround giX9_isGround gsX9_isGround mX9_190 (⟨rfl, rfl, Nat.le_of_ble_eq_true rfl, Nat.le_of_ble_eq_true rfl, Nat.le_of_ble_eq_true rfl, Nat.le_of_ble_eq_true rfl⟩) rfl (obX9 E m) rfl rfl rfl (Nat.le_of_ble_eq_true rfl) ?_
        refine g_if_ne (tgt := 31) dX9_pact_25 (by decide) (fun c10 => ?_) (fun c10 => ?_)
        · have hf := it_ hf c10
          exact wX9_pact_b31 E z  a1 a2 a3 a4 a5 m hf
        · have hf := ie_ hf (not_not_intro c10)
          refine g_lv [] rfl ?_
          exact wX9_pact_b28 E z  m hf
theorem tX9_pact (E : pEv) (m : pMem) (a1 : Int32) (a2 : Int32) (a3 : Int32) (a4 : Int32) (a5 : Int32) {z : Int32 × pMem} (hf : sX9_pact a1 a2 a3 a4 a5 m = some z) : gCn E yX9_pact kX9_pact [.ref (eA E 9), .int a1, .int a2, .int a3, .int a4, .int a5] m z := gCn_of (by decide +kernel) rfl rfl rfl (Nat.le_of_ble_eq_true rfl) rfl (wX9_pact_b0 E z a1 a2 a3 a4 a5 m  hf)
theorem wX9_paid_b91 (E : pEv) (z : Int32) (t0 : Int32) (m : pMem) (hf : sX9_paid_b91 t0 m = some z) : gM E kX9_paid (z, m) 91 [] [.int t0] m := by
  unfold sX9_paid_b91 at hf
  exact g_ret dX9_paid_91 rfl rfl (by rw [Option.some.inj hf])
theorem wX9_paid_b89 (E : pEv) (z : Int32) (t0 : Int32) (t1 : Int32) (m : pMem) (hf : sX9_paid_b89 t0 t1 m = some z) : gM E kX9_paid (z, m) 89 [] [.int t0, .int t1, .ref (eA E 74)] m := by
  unfold sX9_paid_b89 at hf
  refine g_iadd dX9_paid_89 ?_
  obtain ⟨h16, hf⟩ := gd_ hf
  refine g_iald dX9_paid_90 ar_74 h16 ?_
  exact wX9_paid_b91 E z  (m.1 74 ((t1 + t0).toNatClampNeg)) m hf
theorem wX9_paid_b0 (E : pEv) (z : Int32) (a1 : Int32) (a2 : Int32) (m : pMem) (hf : sX9_paid a1 a2 m = some z) : gM E kX9_paid (z, m) 0 [(0, .ref (eA E 9)), (1, .int a1), (2, .int a2)] [] m := by
  unfold sX9_paid at hf
  refine g_iload_n (q := 1) dX9_paid_0 rfl rfl ?_
  refine g_iconst (v := 0) dX9_paid_1 kI_0 ?_
  refine g_aload_n (q := 0) dX9_paid_2 rfl rfl ?_
  refine g_get dX9_paid_3 fX9_354 (obX9 E m) (gvX9_55 E m) ?_
  refine g_iconst (v := 1) dX9_paid_6 kI_1 ?_
  refine g_isub dX9_paid_7 ?_
  obtain ⟨r1, q2, hf⟩ := cbR_ hf
  refine g_cS (As := [.int a1, .int 0, .int ((m.1 9 55) - (1 : Int32))]) dX9_paid_8 (tX9_in E m a1 0 ((m.1 9 55) - (1 : Int32)) q2) gyX9_in giX9_in mX9_148 (⟨rfl, rfl, Nat.le_of_ble_eq_true rfl, Nat.le_of_ble_eq_true rfl, Nat.le_of_ble_eq_true rfl, Nat.le_of_ble_eq_true rfl⟩) rfl rfl rfl (Nat.le_of_ble_eq_true rfl) ?_
  refine g_if_ne (tgt := 17) dX9_paid_11 (by decide) (fun c3 => ?_) (fun c3 => ?_)
  · have hf := it_ hf c3
    refine g_iload_n (q := 2) dX9_paid_17 rfl rfl ?_
    obtain ⟨r4, q5, hf⟩ := cbR_ hf
    refine g_cS (As := [.int a2]) dX9_paid_18 (tX9_isDay E m a2 q5) gyX9_isDay giX9_isDay mX9_165 (⟨rfl, rfl, Nat.le_of_ble_eq_true rfl, Nat.le_of_ble_eq_true rfl, Nat.le_of_ble_eq_true rfl, Nat.le_of_ble_eq_true rfl⟩) rfl rfl rfl (Nat.le_of_ble_eq_true rfl) ?_
    refine g_if_ne (tgt := 27) dX9_paid_21 (by decide) (fun c6 => ?_) (fun c6 => ?_)
    · have hf := it_ hf c6
      refine g_aload_n (q := 0) dX9_paid_27 rfl rfl ?_
      refine g_iload_n (q := 2) dX9_paid_28 rfl rfl ?_
      obtain ⟨r7, q8, hf⟩ := cbR_ hf
      refine g_cV (As := [.int a2]) dX9_paid_29 (tX9_doneBy E m a2 q8) gyX9_doneBy giX9_doneBy gsX9_doneBy mX9_183 (⟨rfl, rfl, Nat.le_of_ble_eq_true rfl, Nat.le_of_ble_eq_true rfl, Nat.le_of_ble_eq_true rfl, Nat.le_of_ble_eq_true rfl⟩) rfl (obX9 E m) rfl rfl rfl (Nat.le_of_ble_eq_true rfl) ?_
      refine g_istore_n dX9_paid_32 rfl (Nat.le_of_ble_eq_true rfl) rfl ?_
      refine g_aload_n (q := 1) dX9_paid_33 rfl rfl ?_
      refine g_get dX9_paid_34 fX9_56 (obX9 E m) (gvX9_25 E m) ?_
      refine g_iconst (v := 4) dX9_paid_37 kI_4 ?_
      refine g_iald dX9_paid_38 ar_78 (by decide) ?_
      refine g_if_ne (tgt := 56) dX9_paid_39 (by decide) (fun c9 => ?_) (fun c9 => ?_)
      · have hf := it_ hf c9
        refine g_aload_n (q := 1) dX9_paid_56 rfl rfl ?_
        refine g_get dX9_paid_57 fX9_44 (obX9 E m) (gvX9_13 E m) ?_
        refine g_bipush (v := 8) dX9_paid_60 kB_8 ?_
        refine g_iload_n (q := 0) dX9_paid_62 rfl rfl ?_
        refine g_imul dX9_paid_63 ?_
        refine g_aload_n (q := 1) dX9_paid_64 rfl rfl ?_
        refine g_get dX9_paid_65 fX9_56 (obX9 E m) (gvX9_25 E m) ?_
        refine g_iconst (v := 4) dX9_paid_68 kI_4 ?_
        refine g_iald dX9_paid_69 ar_78 (by decide) ?_
        refine g_iconst (v := 1) dX9_paid_70 kI_1 ?_
        refine g_icmp_ne (tgt := 83) dX9_paid_71 (by decide) (fun c10 => ?_) (fun c10 => ?_)
        · have hf := it_ hf c10
          refine g_aload_n (q := 1) dX9_paid_83 rfl rfl ?_
          refine g_get dX9_paid_84 fX9_132 (obX9 E m) (gvX9_57 E m) ?_
          refine g_iload_n (q := 2) dX9_paid_87 rfl rfl ?_
          obtain ⟨h11, hf⟩ := gd_ hf
          refine g_iald dX9_paid_88 ar_103 h11 ?_
          refine g_lv [] rfl ?_
          exact wX9_paid_b89 E z  (m.1 103 a1.toNatClampNeg) ((8 : Int32) * r7) m hf
        · have hf := ie_ hf (not_not_intro c10)
          refine g_aload_n (q := 1) dX9_paid_74 rfl rfl ?_
          refine g_get dX9_paid_75 fX9_135 (obX9 E m) (gvX9_58 E m) ?_
          refine g_iload_n (q := 2) dX9_paid_78 rfl rfl ?_
          obtain ⟨h12, hf⟩ := gd_ hf
          refine g_iald dX9_paid_79 ar_104 h12 ?_
          refine g_goto (tgt := 89) dX9_paid_80 (by decide) ?_
          refine g_lv [] rfl ?_
          exact wX9_paid_b89 E z  (m.1 104 a1.toNatClampNeg) ((8 : Int32) * r7) m hf
      · have hf := ie_ hf (not_not_intro c9)
        refine g_aload_n (q := 1) dX9_paid_42 rfl rfl ?_
        refine g_aload_n (q := 1) dX9_paid_43 rfl rfl ?_
        refine g_get dX9_paid_44 fX9_129 (obX9 E m) (gvX9_56 E m) ?_
        refine g_iload_n (q := 2) dX9_paid_47 rfl rfl ?_
        obtain ⟨h13, hf⟩ := gd_ hf
        refine g_iald dX9_paid_48 ar_102 h13 ?_
        refine g_iload_n (q := 3) dX9_paid_49 rfl rfl ?_
        obtain ⟨r14, q15, hf⟩ := cbR_ hf
        refine g_cV (As := [.int (m.1 102 a1.toNatClampNeg), .int a2]) dX9_paid_50 (tX9_heirOf E m (m.1 102 a1.toNatClampNeg) a2 q15) gyX9_heirOf giX9_heirOf gsX9_heirOf mX9_199 (⟨rfl, rfl, Nat.le_of_ble_eq_true rfl, Nat.le_of_ble_eq_true rfl, Nat.le_of_ble_eq_true rfl, Nat.le_of_ble_eq_true rfl⟩) rfl (obX9 E m) rfl rfl rfl (Nat.le_of_ble_eq_true rfl) ?_
        refine g_goto (tgt := 91) dX9_paid_53 (by decide) ?_
        refine g_lv [] rfl ?_
        exact wX9_paid_b91 E z  r14 m hf
    · have hf := ie_ hf (not_not_intro c6)
      refine g_bipush (v := (-3)) dX9_paid_24 kB_m3 ?_
      exact g_ret dX9_paid_26 rfl rfl (by rw [Option.some.inj hf])
  · have hf := ie_ hf (not_not_intro c3)
    refine g_bipush (v := (-2)) dX9_paid_14 kB_m2 ?_
    exact g_ret dX9_paid_16 rfl rfl (by rw [Option.some.inj hf])
theorem tX9_paid (E : pEv) (m : pMem) (a1 : Int32) (a2 : Int32) {z : Int32} (hf : sX9_paid a1 a2 m = some z) : gCn E yX9_paid kX9_paid [.ref (eA E 9), .int a1, .int a2] m (z, m) := gCn_of (by decide +kernel) rfl rfl rfl (Nat.le_of_ble_eq_true rfl) rfl (wX9_paid_b0 E z a1 a2 m  hf)
theorem wX9_rule_b20 (E : pEv) (z : Int32) (t0 : Int32) (m : pMem) (hf : sX9_rule_b20 t0 m = some z) : gM E kX9_rule (z, m) 20 [] [.int t0] m := by
  unfold sX9_rule_b20 at hf
  exact g_ret dX9_rule_20 rfl rfl (by rw [Option.some.inj hf])
theorem wX9_rule_b0 (E : pEv) (z : Int32) (a1 : Int32) (m : pMem) (hf : sX9_rule a1 m = some z) : gM E kX9_rule (z, m) 0 [(0, .ref (eA E 9)), (1, .int a1)] [] m := by
  unfold sX9_rule at hf
  refine g_iload_n (q := 1) dX9_rule_0 rfl rfl ?_
  refine g_iconst (v := 0) dX9_rule_1 kI_0 ?_
  refine g_iconst (v := 4) dX9_rule_2 kI_4 ?_
  obtain ⟨r1, q2, hf⟩ := cbR_ hf
  refine g_cS (As := [.int a1, .int 0, .int 4]) dX9_rule_3 (tX9_in E m a1 0 4 q2) gyX9_in giX9_in mX9_148 (⟨rfl, rfl, Nat.le_of_ble_eq_true rfl, Nat.le_of_ble_eq_true rfl, Nat.le_of_ble_eq_true rfl, Nat.le_of_ble_eq_true rfl⟩) rfl rfl rfl (Nat.le_of_ble_eq_true rfl) ?_
  refine g_if_eq (tgt := 18) dX9_rule_6 (by decide) (fun c3 => ?_) (fun c3 => ?_)
  · have hf := it_ hf c3
    refine g_bipush (v := (-3)) dX9_rule_18 kB_m3 ?_
    refine g_lv [] rfl ?_
    exact wX9_rule_b20 E z  (-3) m hf
  · have hf := ie_ hf c3
    refine g_aload_n (q := 0) dX9_rule_9 rfl rfl ?_
    refine g_get dX9_rule_10 fX9_56 (obX9 E m) (gvX9_25 E m) ?_
    refine g_iload_n (q := 1) dX9_rule_13 rfl rfl ?_
    obtain ⟨h4, hf⟩ := gd_ hf
    refine g_iald dX9_rule_14 ar_78 h4 ?_
    refine g_goto (tgt := 20) dX9_rule_15 (by decide) ?_
    refine g_lv [] rfl ?_
    exact wX9_rule_b20 E z  (m.1 78 a1.toNatClampNeg) m hf
theorem tX9_rule (E : pEv) (m : pMem) (a1 : Int32) {z : Int32} (hf : sX9_rule a1 m = some z) : gCn E yX9_rule kX9_rule [.ref (eA E 9), .int a1] m (z, m) := gCn_of (by decide +kernel) rfl rfl rfl (Nat.le_of_ble_eq_true rfl) rfl (wX9_rule_b0 E z a1 m  hf)
theorem wX9_rules_b12 (E : pEv) (z : Int32 × pMem) (k12 : Int32 → pMem → gO) (ih12 : ∀ (l1 : Int32)  (m : pMem), k12 l1 m = some z → gM E kX9_rules z 12 [(0, .ref (eA E 9)), (1, .int l1)] [] m) (l1 : Int32) (m : pMem) (hf : sX9_rules_b12 k12 l1 m = some z) : gM E kX9_rules z 12 [(0, .ref (eA E 9)), (1, .int l1)] [] m := by
  unfold sX9_rules_b12 at hf
  refine g_iload_n (q := 1) dX9_rules_12 rfl rfl ?_
  refine g_iconst (v := 5) dX9_rules_13 kI_5 ?_
  refine g_icmp_ge (tgt := 35) dX9_rules_14 (by decide) (fun c5 => ?_) (fun c5 => ?_)
  · have hf := it_ hf c5
    refine g_aload_n (q := 0) dX9_rules_35 rfl rfl ?_
    refine g_iconst (v := 0) dX9_rules_36 kI_0 ?_
    refine g_put dX9_rules_37 fX9_202 fwX9_15 rfl rfl (obX9 E m) (Nat.le_of_ble_eq_true rfl) (psX9_15 E m _) ?_
    refine nmG hf (fun m6 hf => ?_)
    refine g_aload_n (q := 0) dX9_rules_40 rfl rfl ?_
    refine g_get dX9_rules_41 fX9_277 (obX9 E m6) (gvX9_23 E m6) ?_
    exact g_ret dX9_rules_44 rfl rfl (Option.some.inj hf).symm
  · have hf := ie_ hf c5
    refine g_aload_n (q := 0) dX9_rules_17 rfl rfl ?_
    refine g_get dX9_rules_18 fX9_56 (obX9 E m) (gvX9_25 E m) ?_
    refine g_iload_n (q := 1) dX9_rules_21 rfl rfl ?_
    refine g_aload_n (q := 0) dX9_rules_22 rfl rfl ?_
    refine g_get dX9_rules_23 fX9_53 (obX9 E m) (gvX9_24 E m) ?_
    refine g_iload_n (q := 1) dX9_rules_26 rfl rfl ?_
    obtain ⟨h7, hf⟩ := gd_ hf
    refine g_iald dX9_rules_27 ar_77 h7 ?_
    obtain ⟨h8, hf⟩ := gd_ hf
    refine g_iast dX9_rules_28 ar_78 h8 ?_
    refine nmG hf (fun m9 hf => ?_)
    refine g_iinc (q := 1) (v := l1 + 1) dX9_rules_29 rfl (by rw [kI_1]) (Nat.le_of_ble_eq_true rfl) rfl ?_
    refine g_goto (tgt := 12) dX9_rules_32 (by decide) ?_
    refine g_lv [1, 0] rfl ?_
    exact ih12 (l1 + 1) m9 hf
theorem wX9_rules_l12 (E : pEv) (z : Int32 × pMem) : ∀ (n : Nat) (l1 : Int32) (m : pMem), sX9_rules_l12 n l1 m = some z → gM E kX9_rules z 12 [(0, .ref (eA E 9)), (1, .int l1)] [] m := by
  intro n
  induction n with
  | zero => intro l1 m  hf; cases (show (none : Option _) = some z from hf)
  | succ n ih => intro l1 m  hf; exact wX9_rules_b12 E z  _  ih l1 m  hf
theorem wX9_rules_b0 (E : pEv) (z : Int32 × pMem) (m : pMem) (hf : sX9_rules  m = some z) : gM E kX9_rules z 0 [(0, .ref (eA E 9))] [] m := by
  unfold sX9_rules at hf
  refine g_aload_n (q := 0) dX9_rules_0 rfl rfl ?_
  obtain ⟨r1, m3, q2, hf⟩ := cbE_ hf
  refine g_cV (As := []) dX9_rules_1 (tX9_isRead E m q2) gyX9_isRead giX9_isRead gsX9_isRead mX9_283 (⟨rfl, rfl, Nat.le_of_ble_eq_true rfl, Nat.le_of_ble_eq_true rfl, Nat.le_of_ble_eq_true rfl, Nat.le_of_ble_eq_true rfl⟩) rfl (obX9 E m) rfl rfl rfl (Nat.le_of_ble_eq_true rfl) ?_
  refine g_if_ne (tgt := 10) dX9_rules_4 (by decide) (fun c4 => ?_) (fun c4 => ?_)
  · have hf := it_ hf c4
    refine g_iconst (v := 0) dX9_rules_10 kI_0 ?_
    refine g_istore_n dX9_rules_11 rfl (Nat.le_of_ble_eq_true rfl) rfl ?_
    refine g_lv [1, 0] rfl ?_
    exact wX9_rules_l12 E z  5000 0 m3 hf
  · have hf := ie_ hf (not_not_intro c4)
    refine g_bipush (v := (-4)) dX9_rules_7 kB_m4 ?_
    exact g_ret dX9_rules_9 rfl rfl (Option.some.inj hf).symm
theorem tX9_rules (E : pEv) (m : pMem) {z : Int32 × pMem} (hf : sX9_rules  m = some z) : gCn E yX9_rules kX9_rules [.ref (eA E 9)] m z := gCn_of (by decide +kernel) rfl rfl rfl (Nat.le_of_ble_eq_true rfl) rfl (wX9_rules_b0 E z  m  hf)
theorem wX9_served_b24 (E : pEv) (z : Int32 × pMem) (m : pMem) (hf : sX9_served_b24  m = some z) : gM E kX9_served z 24 [] [] m := by
  unfold sX9_served_b24 at hf
  refine g_bipush (v := (-2)) dX9_served_24 kB_m2 ?_
  exact g_ret dX9_served_26 rfl rfl (Option.some.inj hf).symm
theorem wX9_served_b0 (E : pEv) (z : Int32 × pMem) (a1 : Int32) (a2 : Int32) (a3 : Int32) (m : pMem) (hf : sX9_served a1 a2 a3 m = some z) : gM E kX9_served z 0 [(0, .ref (eA E 9)), (1, .int a1), (2, .int a2), (3, .int a3)] [] m := by
  unfold sX9_served at hf
  refine g_aload_n (q := 0) dX9_served_0 rfl rfl ?_
  refine g_iload_n (q := 1) dX9_served_1 rfl rfl ?_
  obtain ⟨r1, q2, hf⟩ := cbR_ hf
  refine g_cV (As := [.int a1]) dX9_served_2 (tX9_isLand E m a1 q2) gyX9_isLand giX9_isLand gsX9_isLand mX9_187 (⟨rfl, rfl, Nat.le_of_ble_eq_true rfl, Nat.le_of_ble_eq_true rfl, Nat.le_of_ble_eq_true rfl, Nat.le_of_ble_eq_true rfl⟩) rfl (obX9 E m) rfl rfl rfl (Nat.le_of_ble_eq_true rfl) ?_
  refine g_if_eq (tgt := 24) dX9_served_5 (by decide) (fun c3 => ?_) (fun c3 => ?_)
  · have hf := it_ hf c3
    refine g_lv [] rfl ?_
    exact wX9_served_b24 E z  m hf
  · have hf := ie_ hf c3
    refine g_aload_n (q := 0) dX9_served_8 rfl rfl ?_
    refine g_iload_n (q := 2) dX9_served_9 rfl rfl ?_
    obtain ⟨r4, q5, hf⟩ := cbR_ hf
    refine g_cV (As := [.int a2]) dX9_served_10 (tX9_isGround E m a2 q5) gyX9_isGround giX9_isGround gsX9_isGround mX9_190 (⟨rfl, rfl, Nat.le_of_ble_eq_true rfl, Nat.le_of_ble_eq_true rfl, Nat.le_of_ble_eq_true rfl, Nat.le_of_ble_eq_true rfl⟩) rfl (obX9 E m) rfl rfl rfl (Nat.le_of_ble_eq_true rfl) ?_
    refine g_if_eq (tgt := 24) dX9_served_13 (by decide) (fun c6 => ?_) (fun c6 => ?_)
    · have hf := it_ hf c6
      refine g_lv [] rfl ?_
      exact wX9_served_b24 E z  m hf
    · have hf := ie_ hf c6
      refine g_aload_n (q := 0) dX9_served_16 rfl rfl ?_
      refine g_iload_n (q := 3) dX9_served_17 rfl rfl ?_
      obtain ⟨r7, q8, hf⟩ := cbR_ hf
      refine g_cV (As := [.int a3]) dX9_served_18 (tX9_isGround E m a3 q8) gyX9_isGround giX9_isGround gsX9_isGround mX9_190 (⟨rfl, rfl, Nat.le_of_ble_eq_true rfl, Nat.le_of_ble_eq_true rfl, Nat.le_of_ble_eq_true rfl, Nat.le_of_ble_eq_true rfl⟩) rfl (obX9 E m) rfl rfl rfl (Nat.le_of_ble_eq_true rfl) ?_
      refine g_if_ne (tgt := 27) dX9_served_21 (by decide) (fun c9 => ?_) (fun c9 => ?_)
      · have hf := it_ hf c9
        refine g_aload_n (q := 0) dX9_served_27 rfl rfl ?_
        refine g_get dX9_served_28 fX9_354 (obX9 E m) (gvX9_55 E m) ?_
        refine g_bipush (v := 12) dX9_served_31 kB_12 ?_
        refine g_icmp_ne (tgt := 39) dX9_served_33 (by decide) (fun c10 => ?_) (fun c10 => ?_)
        · have hf := it_ hf c10
          refine g_aload_n (q := 0) dX9_served_39 rfl rfl ?_
          refine g_get dX9_served_40 fX9_129 (obX9 E m) (gvX9_56 E m) ?_
          refine g_aload_n (q := 0) dX9_served_43 rfl rfl ?_
          refine g_get dX9_served_44 fX9_354 (obX9 E m) (gvX9_55 E m) ?_
          refine g_iload_n (q := 1) dX9_served_47 rfl rfl ?_
          obtain ⟨h11, hf⟩ := gd_ hf
          refine g_iast dX9_served_48 ar_102 h11 ?_
          refine nmG hf (fun m12 hf => ?_)
          refine g_aload_n (q := 0) dX9_served_49 rfl rfl ?_
          refine g_get dX9_served_50 fX9_132 (obX9 E m12) (gvX9_57 E m12) ?_
          refine g_aload_n (q := 0) dX9_served_53 rfl rfl ?_
          refine g_get dX9_served_54 fX9_354 (obX9 E m12) (gvX9_55 E m12) ?_
          refine g_iload_n (q := 2) dX9_served_57 rfl rfl ?_
          obtain ⟨h13, hf⟩ := gd_ hf
          refine g_iast dX9_served_58 ar_103 h13 ?_
          refine nmG hf (fun m14 hf => ?_)
          refine g_aload_n (q := 0) dX9_served_59 rfl rfl ?_
          refine g_get dX9_served_60 fX9_135 (obX9 E m14) (gvX9_58 E m14) ?_
          refine g_aload_n (q := 0) dX9_served_63 rfl rfl ?_
          refine g_get dX9_served_64 fX9_354 (obX9 E m14) (gvX9_55 E m14) ?_
          refine g_iload_n (q := 3) dX9_served_67 rfl rfl ?_
          obtain ⟨h15, hf⟩ := gd_ hf
          refine g_iast dX9_served_68 ar_104 h15 ?_
          refine nmG hf (fun m16 hf => ?_)
          refine g_aload_n (q := 0) dX9_served_69 rfl rfl ?_
          refine g_dup dX9_served_70 rfl ?_
          refine g_get dX9_served_71 fX9_354 (obX9 E m16) (gvX9_55 E m16) ?_
          refine g_iconst (v := 1) dX9_served_74 kI_1 ?_
          refine g_iadd dX9_served_75 ?_
          refine g_put dX9_served_76 fX9_354 fwX9_55 rfl rfl (obX9 E m16) (Nat.le_of_ble_eq_true rfl) (psX9_55 E m16 _) ?_
          refine nmG hf (fun m17 hf => ?_)
          refine g_aload_n (q := 0) dX9_served_79 rfl rfl ?_
          refine g_get dX9_served_80 fX9_354 (obX9 E m17) (gvX9_55 E m17) ?_
          refine g_iconst (v := 1) dX9_served_83 kI_1 ?_
          refine g_isub dX9_served_84 ?_
          exact g_ret dX9_served_85 rfl rfl (Option.some.inj hf).symm
        · have hf := ie_ hf (not_not_intro c10)
          refine g_bipush (v := (-5)) dX9_served_36 kB_m5 ?_
          exact g_ret dX9_served_38 rfl rfl (Option.some.inj hf).symm
      · have hf := ie_ hf (not_not_intro c9)
        refine g_lv [] rfl ?_
        exact wX9_served_b24 E z  m hf
theorem tX9_served (E : pEv) (m : pMem) (a1 : Int32) (a2 : Int32) (a3 : Int32) {z : Int32 × pMem} (hf : sX9_served a1 a2 a3 m = some z) : gCn E yX9_served kX9_served [.ref (eA E 9), .int a1, .int a2, .int a3] m z := gCn_of (by decide +kernel) rfl rfl rfl (Nat.le_of_ble_eq_true rfl) rfl (wX9_served_b0 E z a1 a2 a3 m  hf)
theorem wX9_since_b16 (E : pEv) (z : Int32 × pMem) (m : pMem) (hf : sX9_since_b16  m = some z) : gM E kX9_since z 16 [] [] m := by
  unfold sX9_since_b16 at hf
  refine g_bipush (v := (-2)) dX9_since_16 kB_m2 ?_
  exact g_ret dX9_since_18 rfl rfl (Option.some.inj hf).symm
theorem wX9_since_b26 (E : pEv) (z : Int32 × pMem) (k26 : Int32 → Int32 → Int32 → pMem → gO) (ih26 : ∀ (l1 : Int32) (l2 : Int32) (l3 : Int32)  (m : pMem), k26 l1 l2 l3 m = some z → gM E kX9_since z 26 [(0, .ref (eA E 9)), (1, .int l1), (2, .int l2), (3, .int l3)] [] m) (l1 : Int32) (l2 : Int32) (l3 : Int32) (m : pMem) (hf : sX9_since_b26 k26 l1 l2 l3 m = some z) : gM E kX9_since z 26 [(0, .ref (eA E 9)), (1, .int l1), (2, .int l2), (3, .int l3)] [] m := by
  unfold sX9_since_b26 at hf
  refine g_iload_n (q := 3) dX9_since_26 rfl rfl ?_
  refine g_sipush (v := 1000) dX9_since_27 kS_1000 ?_
  refine g_icmp_ge (tgt := 55) dX9_since_30 (by decide) (fun c9 => ?_) (fun c9 => ?_)
  · have hf := it_ hf c9
    refine g_iconst (v := (-1)) dX9_since_55 kI_m1 ?_
    exact g_ret dX9_since_56 rfl rfl (Option.some.inj hf).symm
  · have hf := ie_ hf c9
    refine g_aload_n (q := 0) dX9_since_33 rfl rfl ?_
    refine g_iload_n (q := 1) dX9_since_34 rfl rfl ?_
    refine g_iload_n (q := 3) dX9_since_35 rfl rfl ?_
    obtain ⟨r10, m12, q11, hf⟩ := cbE_ hf
    refine g_cV (As := [.int l1, .int l3]) dX9_since_36 (tX9_boundOf E m l1 l3 q11) gyX9_boundOf giX9_boundOf gsX9_boundOf mX9_325 (⟨rfl, rfl, Nat.le_of_ble_eq_true rfl, Nat.le_of_ble_eq_true rfl, Nat.le_of_ble_eq_true rfl, Nat.le_of_ble_eq_true rfl⟩) rfl (obX9 E m) rfl rfl rfl (Nat.le_of_ble_eq_true rfl) ?_
    refine g_iload_n (q := 2) dX9_since_39 rfl rfl ?_
    refine g_ishr dX9_since_40 ?_
    refine g_iconst (v := 1) dX9_since_41 kI_1 ?_
    refine g_iand dX9_since_42 ?_
    refine g_iconst (v := 1) dX9_since_43 kI_1 ?_
    refine g_icmp_ne (tgt := 49) dX9_since_44 (by decide) (fun c13 => ?_) (fun c13 => ?_)
    · have hf := it_ hf c13
      refine g_iinc (q := 3) (v := l3 + 1) dX9_since_49 rfl (by rw [kI_1]) (Nat.le_of_ble_eq_true rfl) rfl ?_
      refine g_goto (tgt := 26) dX9_since_52 (by decide) ?_
      refine g_lv [1, 2, 3, 0] rfl ?_
      exact ih26 l1 l2 (l3 + 1) m12 hf
    · have hf := ie_ hf (not_not_intro c13)
      refine g_iload_n (q := 3) dX9_since_47 rfl rfl ?_
      exact g_ret dX9_since_48 rfl rfl (Option.some.inj hf).symm
theorem wX9_since_l26 (E : pEv) (z : Int32 × pMem) : ∀ (n : Nat) (l1 : Int32) (l2 : Int32) (l3 : Int32) (m : pMem), sX9_since_l26 n l1 l2 l3 m = some z → gM E kX9_since z 26 [(0, .ref (eA E 9)), (1, .int l1), (2, .int l2), (3, .int l3)] [] m := by
  intro n
  induction n with
  | zero => intro l1 l2 l3 m  hf; cases (show (none : Option _) = some z from hf)
  | succ n ih => intro l1 l2 l3 m  hf; exact wX9_since_b26 E z  _  ih l1 l2 l3 m  hf
theorem wX9_since_b0 (E : pEv) (z : Int32 × pMem) (a1 : Int32) (a2 : Int32) (m : pMem) (hf : sX9_since a1 a2 m = some z) : gM E kX9_since z 0 [(0, .ref (eA E 9)), (1, .int a1), (2, .int a2)] [] m := by
  unfold sX9_since at hf
  refine g_aload_n (q := 0) dX9_since_0 rfl rfl ?_
  refine g_iload_n (q := 1) dX9_since_1 rfl rfl ?_
  obtain ⟨r1, q2, hf⟩ := cbR_ hf
  refine g_cV (As := [.int a1]) dX9_since_2 (tX9_isPact E m a1 q2) gyX9_isPact giX9_isPact gsX9_isPact mX9_289 (⟨rfl, rfl, Nat.le_of_ble_eq_true rfl, Nat.le_of_ble_eq_true rfl, Nat.le_of_ble_eq_true rfl, Nat.le_of_ble_eq_true rfl⟩) rfl (obX9 E m) rfl rfl rfl (Nat.le_of_ble_eq_true rfl) ?_
  refine g_if_eq (tgt := 16) dX9_since_5 (by decide) (fun c3 => ?_) (fun c3 => ?_)
  · have hf := it_ hf c3
    refine g_lv [] rfl ?_
    exact wX9_since_b16 E z  m hf
  · have hf := ie_ hf c3
    refine g_aload_n (q := 0) dX9_since_8 rfl rfl ?_
    refine g_iload_n (q := 2) dX9_since_9 rfl rfl ?_
    obtain ⟨r4, q5, hf⟩ := cbR_ hf
    refine g_cV (As := [.int a2]) dX9_since_10 (tX9_isLand E m a2 q5) gyX9_isLand giX9_isLand gsX9_isLand mX9_187 (⟨rfl, rfl, Nat.le_of_ble_eq_true rfl, Nat.le_of_ble_eq_true rfl, Nat.le_of_ble_eq_true rfl, Nat.le_of_ble_eq_true rfl⟩) rfl (obX9 E m) rfl rfl rfl (Nat.le_of_ble_eq_true rfl) ?_
    refine g_if_ne (tgt := 19) dX9_since_13 (by decide) (fun c6 => ?_) (fun c6 => ?_)
    · have hf := it_ hf c6
      refine g_aload_n (q := 0) dX9_since_19 rfl rfl ?_
      refine g_get dX9_since_20 fX9_71 (obX9 E m) (gvX9_31 E m) ?_
      refine g_iload_n (q := 1) dX9_since_23 rfl rfl ?_
      obtain ⟨h7, hf⟩ := gd_ hf
      refine g_iald dX9_since_24 ar_83 h7 ?_
      refine nmI hf (fun x8 hf => ?_)
      refine g_istore_n dX9_since_25 rfl (Nat.le_of_ble_eq_true rfl) rfl ?_
      refine g_lv [1, 2, 3, 0] rfl ?_
      exact wX9_since_l26 E z  5000 a1 a2 x8 m hf
    · have hf := ie_ hf (not_not_intro c6)
      refine g_lv [] rfl ?_
      exact wX9_since_b16 E z  m hf
theorem tX9_since (E : pEv) (m : pMem) (a1 : Int32) (a2 : Int32) {z : Int32 × pMem} (hf : sX9_since a1 a2 m = some z) : gCn E yX9_since kX9_since [.ref (eA E 9), .int a1, .int a2] m z := gCn_of (by decide +kernel) rfl rfl rfl (Nat.le_of_ble_eq_true rfl) rfl (wX9_since_b0 E z a1 a2 m  hf)
theorem wX9_thing_b25 (E : pEv) (z : Int32 × pMem) (m : pMem) (hf : sX9_thing_b25  m = some z) : gM E kX9_thing z 25 [] [] m := by
  unfold sX9_thing_b25 at hf
  refine g_bipush (v := (-3)) dX9_thing_25 kB_m3 ?_
  exact g_ret dX9_thing_27 rfl rfl (Option.some.inj hf).symm
theorem wX9_thing_b83 (E : pEv) (z : Int32 × pMem) (l3 : Int32) (t0 : Int32) (t1 : Int32) (m : pMem) (hf : sX9_thing_b83 l3 t0 t1 m = some z) : gM E kX9_thing z 83 [(0, .ref (eA E 9)), (3, .int l3)] [.int t0, .int t1, .ref (eA E 100)] m := by
  unfold sX9_thing_b83 at hf
  obtain ⟨h16, hf⟩ := gd_ hf
  refine g_iast dX9_thing_83 ar_100 h16 ?_
  refine nmG hf (fun m17 hf => ?_)
  refine g_aload_n (q := 0) dX9_thing_84 rfl rfl ?_
  refine g_get dX9_thing_85 fX9_126 (obX9 E m17) (gvX9_54 E m17) ?_
  refine g_aload_n (q := 0) dX9_thing_88 rfl rfl ?_
  refine g_get dX9_thing_89 fX9_345 (obX9 E m17) (gvX9_51 E m17) ?_
  refine g_iload_n (q := 1) dX9_thing_92 rfl rfl ?_
  obtain ⟨h18, hf⟩ := gd_ hf
  refine g_iast dX9_thing_93 ar_101 h18 ?_
  refine nmG hf (fun m19 hf => ?_)
  refine g_aload_n (q := 0) dX9_thing_94 rfl rfl ?_
  refine g_dup dX9_thing_95 rfl ?_
  refine g_get dX9_thing_96 fX9_345 (obX9 E m19) (gvX9_51 E m19) ?_
  refine g_iconst (v := 1) dX9_thing_99 kI_1 ?_
  refine g_iadd dX9_thing_100 ?_
  refine g_put dX9_thing_101 fX9_345 fwX9_51 rfl rfl (obX9 E m19) (Nat.le_of_ble_eq_true rfl) (psX9_51 E m19 _) ?_
  refine nmG hf (fun m20 hf => ?_)
  refine g_aload_n (q := 0) dX9_thing_104 rfl rfl ?_
  refine g_get dX9_thing_105 fX9_345 (obX9 E m20) (gvX9_51 E m20) ?_
  refine g_iconst (v := 1) dX9_thing_108 kI_1 ?_
  refine g_isub dX9_thing_109 ?_
  exact g_ret dX9_thing_110 rfl rfl (Option.some.inj hf).symm
theorem wX9_thing_b43 (E : pEv) (z : Int32 × pMem) (l1 : Int32) (l2 : Int32) (l3 : Int32) (m : pMem) (hf : sX9_thing_b43 l1 l2 l3 m = some z) : gM E kX9_thing z 43 [(0, .ref (eA E 9)), (1, .int l1), (2, .int l2), (3, .int l3)] [] m := by
  unfold sX9_thing_b43 at hf
  refine g_aload_n (q := 0) dX9_thing_43 rfl rfl ?_
  refine g_get dX9_thing_44 fX9_345 (obX9 E m) (gvX9_51 E m) ?_
  refine g_bipush (v := 8) dX9_thing_47 kB_8 ?_
  refine g_icmp_ne (tgt := 55) dX9_thing_49 (by decide) (fun c12 => ?_) (fun c12 => ?_)
  · have hf := it_ hf c12
    refine g_aload_n (q := 0) dX9_thing_55 rfl rfl ?_
    refine g_get dX9_thing_56 fX9_120 (obX9 E m) (gvX9_52 E m) ?_
    refine g_aload_n (q := 0) dX9_thing_59 rfl rfl ?_
    refine g_get dX9_thing_60 fX9_345 (obX9 E m) (gvX9_51 E m) ?_
    refine g_iload_n (q := 1) dX9_thing_63 rfl rfl ?_
    obtain ⟨h13, hf⟩ := gd_ hf
    refine g_iast dX9_thing_64 ar_99 h13 ?_
    refine nmG hf (fun m14 hf => ?_)
    refine g_aload_n (q := 0) dX9_thing_65 rfl rfl ?_
    refine g_get dX9_thing_66 fX9_123 (obX9 E m14) (gvX9_53 E m14) ?_
    refine g_aload_n (q := 0) dX9_thing_69 rfl rfl ?_
    refine g_get dX9_thing_70 fX9_345 (obX9 E m14) (gvX9_51 E m14) ?_
    refine g_iload_n (q := 1) dX9_thing_73 rfl rfl ?_
    refine g_iconst (v := 1) dX9_thing_74 kI_1 ?_
    refine g_icmp_ne (tgt := 82) dX9_thing_75 (by decide) (fun c15 => ?_) (fun c15 => ?_)
    · have hf := it_ hf c15
      refine g_iconst (v := 1) dX9_thing_82 kI_1 ?_
      refine g_lv [0, 3] rfl ?_
      exact wX9_thing_b83 E z  l3 1 (m14.1 9 51) m14 hf
    · have hf := ie_ hf (not_not_intro c15)
      refine g_iload_n (q := 2) dX9_thing_78 rfl rfl ?_
      refine g_goto (tgt := 83) dX9_thing_79 (by decide) ?_
      refine g_lv [0, 3] rfl ?_
      exact wX9_thing_b83 E z  l3 l2 (m14.1 9 51) m14 hf
  · have hf := ie_ hf (not_not_intro c12)
    refine g_bipush (v := (-5)) dX9_thing_52 kB_m5 ?_
    exact g_ret dX9_thing_54 rfl rfl (Option.some.inj hf).symm
theorem wX9_thing_b28 (E : pEv) (z : Int32 × pMem) (l1 : Int32) (l2 : Int32) (l3 : Int32) (m : pMem) (hf : sX9_thing_b28 l1 l2 l3 m = some z) : gM E kX9_thing z 28 [(0, .ref (eA E 9)), (1, .int l1), (2, .int l2), (3, .int l3)] [] m := by
  unfold sX9_thing_b28 at hf
  refine g_iload_n (q := 1) dX9_thing_28 rfl rfl ?_
  refine g_if_ne (tgt := 43) dX9_thing_29 (by decide) (fun c8 => ?_) (fun c8 => ?_)
  · have hf := it_ hf c8
    exact wX9_thing_b43 E z  l1 l2 l3 m hf
  · have hf := ie_ hf (not_not_intro c8)
    refine g_aload_n (q := 0) dX9_thing_32 rfl rfl ?_
    refine g_iload_n (q := 3) dX9_thing_33 rfl rfl ?_
    obtain ⟨r9, q10, hf⟩ := cbR_ hf
    refine g_cV (As := [.int l3]) dX9_thing_34 (tX9_isGround E m l3 q10) gyX9_isGround giX9_isGround gsX9_isGround mX9_190 (⟨rfl, rfl, Nat.le_of_ble_eq_true rfl, Nat.le_of_ble_eq_true rfl, Nat.le_of_ble_eq_true rfl, Nat.le_of_ble_eq_true rfl⟩) rfl (obX9 E m) rfl rfl rfl (Nat.le_of_ble_eq_true rfl) ?_
    refine g_if_ne (tgt := 43) dX9_thing_37 (by decide) (fun c11 => ?_) (fun c11 => ?_)
    · have hf := it_ hf c11
      exact wX9_thing_b43 E z  l1 l2 l3 m hf
    · have hf := ie_ hf (not_not_intro c11)
      refine g_bipush (v := (-2)) dX9_thing_40 kB_m2 ?_
      exact g_ret dX9_thing_42 rfl rfl (Option.some.inj hf).symm
theorem wX9_thing_b0 (E : pEv) (z : Int32 × pMem) (a1 : Int32) (a2 : Int32) (a3 : Int32) (m : pMem) (hf : sX9_thing a1 a2 a3 m = some z) : gM E kX9_thing z 0 [(0, .ref (eA E 9)), (1, .int a1), (2, .int a2), (3, .int a3)] [] m := by
  unfold sX9_thing at hf
  refine g_iload_n (q := 1) dX9_thing_0 rfl rfl ?_
  refine g_iconst (v := 0) dX9_thing_1 kI_0 ?_
  refine g_iconst (v := 2) dX9_thing_2 kI_2 ?_
  obtain ⟨r1, q2, hf⟩ := cbR_ hf
  refine g_cS (As := [.int a1, .int 0, .int 2]) dX9_thing_3 (tX9_in E m a1 0 2 q2) gyX9_in giX9_in mX9_148 (⟨rfl, rfl, Nat.le_of_ble_eq_true rfl, Nat.le_of_ble_eq_true rfl, Nat.le_of_ble_eq_true rfl, Nat.le_of_ble_eq_true rfl⟩) rfl rfl rfl (Nat.le_of_ble_eq_true rfl) ?_
  refine g_if_eq (tgt := 25) dX9_thing_6 (by decide) (fun c3 => ?_) (fun c3 => ?_)
  · have hf := it_ hf c3
    refine g_lv [] rfl ?_
    exact wX9_thing_b25 E z  m hf
  · have hf := ie_ hf c3
    refine g_iload_n (q := 1) dX9_thing_9 rfl rfl ?_
    refine g_iconst (v := 1) dX9_thing_10 kI_1 ?_
    refine g_icmp_ne (tgt := 28) dX9_thing_11 (by decide) (fun c4 => ?_) (fun c4 => ?_)
    · have hf := it_ hf c4
      exact wX9_thing_b28 E z  a1 a2 a3 m hf
    · have hf := ie_ hf (not_not_intro c4)
      refine g_iload_n (q := 2) dX9_thing_14 rfl rfl ?_
      refine g_iconst (v := 1) dX9_thing_15 kI_1 ?_
      refine g_sipush (v := 9999) dX9_thing_16 kS_9999 ?_
      obtain ⟨r5, q6, hf⟩ := cbR_ hf
      refine g_cS (As := [.int a2, .int 1, .int 9999]) dX9_thing_19 (tX9_in E m a2 1 9999 q6) gyX9_in giX9_in mX9_148 (⟨rfl, rfl, Nat.le_of_ble_eq_true rfl, Nat.le_of_ble_eq_true rfl, Nat.le_of_ble_eq_true rfl, Nat.le_of_ble_eq_true rfl⟩) rfl rfl rfl (Nat.le_of_ble_eq_true rfl) ?_
      refine g_if_ne (tgt := 28) dX9_thing_22 (by decide) (fun c7 => ?_) (fun c7 => ?_)
      · have hf := it_ hf c7
        exact wX9_thing_b28 E z  a1 a2 a3 m hf
      · have hf := ie_ hf (not_not_intro c7)
        refine g_lv [] rfl ?_
        exact wX9_thing_b25 E z  m hf
theorem tX9_thing (E : pEv) (m : pMem) (a1 : Int32) (a2 : Int32) (a3 : Int32) {z : Int32 × pMem} (hf : sX9_thing a1 a2 a3 m = some z) : gCn E yX9_thing kX9_thing [.ref (eA E 9), .int a1, .int a2, .int a3] m z := gCn_of (by decide +kernel) rfl rfl rfl (Nat.le_of_ble_eq_true rfl) rfl (wX9_thing_b0 E z a1 a2 a3 m  hf)
theorem wX9_voice_b15 (E : pEv) (z : Int32 × pMem) (m : pMem) (hf : sX9_voice_b15  m = some z) : gM E kX9_voice z 15 [] [] m := by
  unfold sX9_voice_b15 at hf
  refine g_bipush (v := (-2)) dX9_voice_15 kB_m2 ?_
  exact g_ret dX9_voice_17 rfl rfl (Option.some.inj hf).symm
theorem wX9_voice_b0 (E : pEv) (z : Int32 × pMem) (a1 : Int32) (a2 : Int32) (a3 : Int32) (a4 : Int32) (m : pMem) (hf : sX9_voice a1 a2 a3 a4 m = some z) : gM E kX9_voice z 0 [(0, .ref (eA E 9)), (1, .int a1), (2, .int a2), (3, .int a3), (4, .int a4)] [] m := by
  unfold sX9_voice at hf
  refine g_iload_n (q := 1) dX9_voice_0 rfl rfl ?_
  obtain ⟨r1, q2, hf⟩ := cbR_ hf
  refine g_cS (As := [.int a1]) dX9_voice_1 (tX9_isThird E m a1 q2) gyX9_isThird giX9_isThird mX9_286 (⟨rfl, rfl, Nat.le_of_ble_eq_true rfl, Nat.le_of_ble_eq_true rfl, Nat.le_of_ble_eq_true rfl, Nat.le_of_ble_eq_true rfl⟩) rfl rfl rfl (Nat.le_of_ble_eq_true rfl) ?_
  refine g_if_eq (tgt := 15) dX9_voice_4 (by decide) (fun c3 => ?_) (fun c3 => ?_)
  · have hf := it_ hf c3
    refine g_lv [] rfl ?_
    exact wX9_voice_b15 E z  m hf
  · have hf := ie_ hf c3
    refine g_aload_n (q := 0) dX9_voice_7 rfl rfl ?_
    refine g_iload_n (q := 2) dX9_voice_8 rfl rfl ?_
    obtain ⟨r4, q5, hf⟩ := cbR_ hf
    refine g_cV (As := [.int a2]) dX9_voice_9 (tX9_isLand E m a2 q5) gyX9_isLand giX9_isLand gsX9_isLand mX9_187 (⟨rfl, rfl, Nat.le_of_ble_eq_true rfl, Nat.le_of_ble_eq_true rfl, Nat.le_of_ble_eq_true rfl, Nat.le_of_ble_eq_true rfl⟩) rfl (obX9 E m) rfl rfl rfl (Nat.le_of_ble_eq_true rfl) ?_
    refine g_if_ne (tgt := 18) dX9_voice_12 (by decide) (fun c6 => ?_) (fun c6 => ?_)
    · have hf := it_ hf c6
      refine g_iload (q := 4) dX9_voice_18 rfl ?_
      obtain ⟨r7, q8, hf⟩ := cbR_ hf
      refine g_cS (As := [.int a4]) dX9_voice_20 (tX9_isDay E m a4 q8) gyX9_isDay giX9_isDay mX9_165 (⟨rfl, rfl, Nat.le_of_ble_eq_true rfl, Nat.le_of_ble_eq_true rfl, Nat.le_of_ble_eq_true rfl, Nat.le_of_ble_eq_true rfl⟩) rfl rfl rfl (Nat.le_of_ble_eq_true rfl) ?_
      refine g_if_ne (tgt := 29) dX9_voice_23 (by decide) (fun c9 => ?_) (fun c9 => ?_)
      · have hf := it_ hf c9
        refine g_aload_n (q := 0) dX9_voice_29 rfl rfl ?_
        refine g_get dX9_voice_30 fX9_295 (obX9 E m) (gvX9_39 E m) ?_
        refine g_bipush (v := 24) dX9_voice_33 kB_24 ?_
        refine g_icmp_ne (tgt := 41) dX9_voice_35 (by decide) (fun c10 => ?_) (fun c10 => ?_)
        · have hf := it_ hf c10
          refine g_aload_n (q := 0) dX9_voice_41 rfl rfl ?_
          refine g_get dX9_voice_42 fX9_90 (obX9 E m) (gvX9_40 E m) ?_
          refine g_aload_n (q := 0) dX9_voice_45 rfl rfl ?_
          refine g_get dX9_voice_46 fX9_295 (obX9 E m) (gvX9_39 E m) ?_
          refine g_iload_n (q := 1) dX9_voice_49 rfl rfl ?_
          obtain ⟨h11, hf⟩ := gd_ hf
          refine g_iast dX9_voice_50 ar_89 h11 ?_
          refine nmG hf (fun m12 hf => ?_)
          refine g_aload_n (q := 0) dX9_voice_51 rfl rfl ?_
          refine g_get dX9_voice_52 fX9_93 (obX9 E m12) (gvX9_41 E m12) ?_
          refine g_aload_n (q := 0) dX9_voice_55 rfl rfl ?_
          refine g_get dX9_voice_56 fX9_295 (obX9 E m12) (gvX9_39 E m12) ?_
          refine g_iload_n (q := 2) dX9_voice_59 rfl rfl ?_
          obtain ⟨h13, hf⟩ := gd_ hf
          refine g_iast dX9_voice_60 ar_90 h13 ?_
          refine nmG hf (fun m14 hf => ?_)
          refine g_aload_n (q := 0) dX9_voice_61 rfl rfl ?_
          refine g_get dX9_voice_62 fX9_96 (obX9 E m14) (gvX9_42 E m14) ?_
          refine g_aload_n (q := 0) dX9_voice_65 rfl rfl ?_
          refine g_get dX9_voice_66 fX9_295 (obX9 E m14) (gvX9_39 E m14) ?_
          refine g_iload (q := 4) dX9_voice_69 rfl ?_
          obtain ⟨h15, hf⟩ := gd_ hf
          refine g_iast dX9_voice_71 ar_91 h15 ?_
          refine nmG hf (fun m16 hf => ?_)
          refine g_aload_n (q := 0) dX9_voice_72 rfl rfl ?_
          refine g_get dX9_voice_73 fX9_99 (obX9 E m16) (gvX9_43 E m16) ?_
          refine g_aload_n (q := 0) dX9_voice_76 rfl rfl ?_
          refine g_get dX9_voice_77 fX9_295 (obX9 E m16) (gvX9_39 E m16) ?_
          refine g_iload_n (q := 3) dX9_voice_80 rfl rfl ?_
          obtain ⟨h17, hf⟩ := gd_ hf
          refine g_zast dX9_voice_81 ar_92 h17 ?_
          refine nmG hf (fun m18 hf => ?_)
          refine g_aload_n (q := 0) dX9_voice_82 rfl rfl ?_
          refine g_dup dX9_voice_83 rfl ?_
          refine g_get dX9_voice_84 fX9_295 (obX9 E m18) (gvX9_39 E m18) ?_
          refine g_iconst (v := 1) dX9_voice_87 kI_1 ?_
          refine g_iadd dX9_voice_88 ?_
          refine g_put dX9_voice_89 fX9_295 fwX9_39 rfl rfl (obX9 E m18) (Nat.le_of_ble_eq_true rfl) (psX9_39 E m18 _) ?_
          refine nmG hf (fun m19 hf => ?_)
          refine g_aload_n (q := 0) dX9_voice_92 rfl rfl ?_
          refine g_get dX9_voice_93 fX9_295 (obX9 E m19) (gvX9_39 E m19) ?_
          exact g_ret dX9_voice_96 rfl rfl (Option.some.inj hf).symm
        · have hf := ie_ hf (not_not_intro c10)
          refine g_bipush (v := (-5)) dX9_voice_38 kB_m5 ?_
          exact g_ret dX9_voice_40 rfl rfl (Option.some.inj hf).symm
      · have hf := ie_ hf (not_not_intro c9)
        refine g_bipush (v := (-3)) dX9_voice_26 kB_m3 ?_
        exact g_ret dX9_voice_28 rfl rfl (Option.some.inj hf).symm
    · have hf := ie_ hf (not_not_intro c6)
      refine g_lv [] rfl ?_
      exact wX9_voice_b15 E z  m hf
theorem tX9_voice (E : pEv) (m : pMem) (a1 : Int32) (a2 : Int32) (a3 : Int32) (a4 : Int32) {z : Int32 × pMem} (hf : sX9_voice a1 a2 a3 a4 m = some z) : gCn E yX9_voice kX9_voice [.ref (eA E 9), .int a1, .int a2, .int a3, .int a4] m z := gCn_of (by decide +kernel) rfl rfl rfl (Nat.le_of_ble_eq_true rfl) rfl (wX9_voice_b0 E z a1 a2 a3 a4 m  hf)
theorem wX9_whose_b38 (E : pEv) (z : Int32) (t0 : Int32) (m : pMem) (hf : sX9_whose_b38 t0 m = some z) : gM E kX9_whose (z, m) 38 [] [.int t0] m := by
  unfold sX9_whose_b38 at hf
  exact g_ret dX9_whose_38 rfl rfl (by rw [Option.some.inj hf])
theorem wX9_whose_b0 (E : pEv) (z : Int32) (a1 : Int32) (a2 : Int32) (m : pMem) (hf : sX9_whose a1 a2 m = some z) : gM E kX9_whose (z, m) 0 [(0, .ref (eA E 9)), (1, .int a1), (2, .int a2)] [] m := by
  unfold sX9_whose at hf
  refine g_aload_n (q := 0) dX9_whose_0 rfl rfl ?_
  refine g_iload_n (q := 1) dX9_whose_1 rfl rfl ?_
  obtain ⟨r1, q2, hf⟩ := cbR_ hf
  refine g_cV (As := [.int a1]) dX9_whose_2 (tX9_isGround E m a1 q2) gyX9_isGround giX9_isGround gsX9_isGround mX9_190 (⟨rfl, rfl, Nat.le_of_ble_eq_true rfl, Nat.le_of_ble_eq_true rfl, Nat.le_of_ble_eq_true rfl, Nat.le_of_ble_eq_true rfl⟩) rfl (obX9 E m) rfl rfl rfl (Nat.le_of_ble_eq_true rfl) ?_
  refine g_if_ne (tgt := 11) dX9_whose_5 (by decide) (fun c3 => ?_) (fun c3 => ?_)
  · have hf := it_ hf c3
    refine g_iload_n (q := 2) dX9_whose_11 rfl rfl ?_
    obtain ⟨r4, q5, hf⟩ := cbR_ hf
    refine g_cS (As := [.int a2]) dX9_whose_12 (tX9_isDay E m a2 q5) gyX9_isDay giX9_isDay mX9_165 (⟨rfl, rfl, Nat.le_of_ble_eq_true rfl, Nat.le_of_ble_eq_true rfl, Nat.le_of_ble_eq_true rfl, Nat.le_of_ble_eq_true rfl⟩) rfl rfl rfl (Nat.le_of_ble_eq_true rfl) ?_
    refine g_if_eq (tgt := 36) dX9_whose_15 (by decide) (fun c6 => ?_) (fun c6 => ?_)
    · have hf := it_ hf c6
      refine g_bipush (v := (-3)) dX9_whose_36 kB_m3 ?_
      refine g_lv [] rfl ?_
      exact wX9_whose_b38 E z  (-3) m hf
    · have hf := ie_ hf c6
      refine g_aload_n (q := 0) dX9_whose_18 rfl rfl ?_
      refine g_get dX9_whose_19 fX9_44 (obX9 E m) (gvX9_13 E m) ?_
      refine g_bipush (v := 8) dX9_whose_22 kB_8 ?_
      refine g_aload_n (q := 0) dX9_whose_24 rfl rfl ?_
      refine g_iload_n (q := 2) dX9_whose_25 rfl rfl ?_
      obtain ⟨r7, q8, hf⟩ := cbR_ hf
      refine g_cV (As := [.int a2]) dX9_whose_26 (tX9_doneBy E m a2 q8) gyX9_doneBy giX9_doneBy gsX9_doneBy mX9_183 (⟨rfl, rfl, Nat.le_of_ble_eq_true rfl, Nat.le_of_ble_eq_true rfl, Nat.le_of_ble_eq_true rfl, Nat.le_of_ble_eq_true rfl⟩) rfl (obX9 E m) rfl rfl rfl (Nat.le_of_ble_eq_true rfl) ?_
      refine g_imul dX9_whose_29 ?_
      refine g_iload_n (q := 1) dX9_whose_30 rfl rfl ?_
      refine g_iadd dX9_whose_31 ?_
      obtain ⟨h9, hf⟩ := gd_ hf
      refine g_iald dX9_whose_32 ar_74 h9 ?_
      refine g_goto (tgt := 38) dX9_whose_33 (by decide) ?_
      refine g_lv [] rfl ?_
      exact wX9_whose_b38 E z  (m.1 74 ((((8 : Int32) * r7) + a1).toNatClampNeg)) m hf
  · have hf := ie_ hf (not_not_intro c3)
    refine g_bipush (v := (-2)) dX9_whose_8 kB_m2 ?_
    exact g_ret dX9_whose_10 rfl rfl (by rw [Option.some.inj hf])
theorem tX9_whose (E : pEv) (m : pMem) (a1 : Int32) (a2 : Int32) {z : Int32} (hf : sX9_whose a1 a2 m = some z) : gCn E yX9_whose kX9_whose [.ref (eA E 9), .int a1, .int a2] m (z, m) := gCn_of (by decide +kernel) rfl rfl rfl (Nat.le_of_ble_eq_true rfl) rfl (wX9_whose_b0 E z a1 a2 m  hf)
theorem wX9_without_b16 (E : pEv) (z : Int32 × pMem) (m : pMem) (hf : sX9_without_b16  m = some z) : gM E kX9_without z 16 [] [] m := by
  unfold sX9_without_b16 at hf
  refine g_bipush (v := (-2)) dX9_without_16 kB_m2 ?_
  exact g_ret dX9_without_18 rfl rfl (Option.some.inj hf).symm
theorem wX9_without_b126 (E : pEv) (z : Int32 × pMem) (k55 : Int32 → Int32 → Int32 → Int32 → Int32 → Int32 → Int32 → pMem → gO) (ih55 : ∀ (l1 : Int32) (l2 : Int32) (l3 : Int32) (l4 : Int32) (l5 : Int32) (l6 : Int32) (l7 : Int32)  (m : pMem), k55 l1 l2 l3 l4 l5 l6 l7 m = some z → gM E kX9_without z 55 [(0, .ref (eA E 9)), (1, .int l1), (2, .int l2), (3, .int l3), (4, .int l4), (5, .int l5), (6, .int l6), (7, .int l7)] [] m) (l1 : Int32) (l2 : Int32) (l3 : Int32) (l4 : Int32) (l5 : Int32) (l6 : Int32) (l7 : Int32) (m : pMem) (hf : sX9_without_b126 k55 l1 l2 l3 l4 l5 l6 l7 m = some z) : gM E kX9_without z 126 [(0, .ref (eA E 9)), (1, .int l1), (2, .int l2), (3, .int l3), (4, .int l4), (5, .int l5), (6, .int l6), (7, .int l7)] [] m := by
  unfold sX9_without_b126 at hf
  refine g_iinc (q := 7) (v := l7 + 1) dX9_without_126 rfl (by rw [kI_1]) (Nat.le_of_ble_eq_true rfl) rfl ?_
  refine g_goto (tgt := 55) dX9_without_129 (by decide) ?_
  refine g_lv [1, 2, 3, 4, 5, 6, 7, 0] rfl ?_
  exact ih55 l1 l2 l3 l4 l5 l6 (l7 + 1) m hf
theorem wX9_without_b124 (E : pEv) (z : Int32 × pMem) (k55 : Int32 → Int32 → Int32 → Int32 → Int32 → Int32 → Int32 → pMem → gO) (ih55 : ∀ (l1 : Int32) (l2 : Int32) (l3 : Int32) (l4 : Int32) (l5 : Int32) (l6 : Int32) (l7 : Int32)  (m : pMem), k55 l1 l2 l3 l4 l5 l6 l7 m = some z → gM E kX9_without z 55 [(0, .ref (eA E 9)), (1, .int l1), (2, .int l2), (3, .int l3), (4, .int l4), (5, .int l5), (6, .int l6), (7, .int l7)] [] m) (l1 : Int32) (l2 : Int32) (l3 : Int32) (l4 : Int32) (l6 : Int32) (l7 : Int32) (t0 : Int32) (m : pMem) (hf : sX9_without_b124 k55 l1 l2 l3 l4 l6 l7 t0 m = some z) : gM E kX9_without z 124 [(0, .ref (eA E 9)), (1, .int l1), (2, .int l2), (3, .int l3), (4, .int l4), (6, .int l6), (7, .int l7)] [.int t0] m := by
  unfold sX9_without_b124 at hf
  refine g_istore dX9_without_124 (Nat.le_of_ble_eq_true rfl) rfl ?_
  refine g_lv [1, 2, 3, 4, 5, 0, 6, 7] rfl ?_
  exact wX9_without_b126 E z k55 ih55 l1 l2 l3 l4 t0 l6 l7 m hf
theorem wX9_without_b108 (E : pEv) (z : Int32 × pMem) (k55 : Int32 → Int32 → Int32 → Int32 → Int32 → Int32 → Int32 → pMem → gO) (ih55 : ∀ (l1 : Int32) (l2 : Int32) (l3 : Int32) (l4 : Int32) (l5 : Int32) (l6 : Int32) (l7 : Int32)  (m : pMem), k55 l1 l2 l3 l4 l5 l6 l7 m = some z → gM E kX9_without z 55 [(0, .ref (eA E 9)), (1, .int l1), (2, .int l2), (3, .int l3), (4, .int l4), (5, .int l5), (6, .int l6), (7, .int l7)] [] m) (l1 : Int32) (l2 : Int32) (l3 : Int32) (l4 : Int32) (l5 : Int32) (l6 : Int32) (l7 : Int32) (t0 : Int32) (m : pMem) (hf : sX9_without_b108 k55 l1 l2 l3 l4 l5 l6 l7 t0 m = some z) : gM E kX9_without z 108 [(0, .ref (eA E 9)), (1, .int l1), (2, .int l2), (3, .int l3), (4, .int l4), (5, .int l5), (6, .int l6), (7, .int l7)] [.int t0] m := by
  unfold sX9_without_b108 at hf
  refine g_istore dX9_without_108 (Nat.le_of_ble_eq_true rfl) rfl ?_
  refine g_iload (q := 0) dX9_without_110 rfl ?_
  refine g_iload (q := 5) dX9_without_112 rfl ?_
  refine g_icmp_ne (tgt := 122) dX9_without_114 (by decide) (fun c25 => ?_) (fun c25 => ?_)
  · have hf := it_ hf c25
    refine g_iload (q := 6) dX9_without_122 rfl ?_
    refine g_lv [1, 2, 3, 4, 5, 7, 8] rfl ?_
    exact wX9_without_b124 E z k55 ih55 l1 l2 l3 l4 l6 l7 l5 m hf
  · have hf := ie_ hf (not_not_intro c25)
    refine g_iload (q := 8) dX9_without_117 rfl ?_
    refine g_goto (tgt := 124) dX9_without_119 (by decide) ?_
    refine g_lv [1, 2, 3, 4, 5, 7, 8] rfl ?_
    exact wX9_without_b124 E z k55 ih55 l1 l2 l3 l4 l6 l7 l7 m hf
theorem wX9_without_b83 (E : pEv) (z : Int32 × pMem) (k55 : Int32 → Int32 → Int32 → Int32 → Int32 → Int32 → Int32 → pMem → gO) (ih55 : ∀ (l1 : Int32) (l2 : Int32) (l3 : Int32) (l4 : Int32) (l5 : Int32) (l6 : Int32) (l7 : Int32)  (m : pMem), k55 l1 l2 l3 l4 l5 l6 l7 m = some z → gM E kX9_without z 55 [(0, .ref (eA E 9)), (1, .int l1), (2, .int l2), (3, .int l3), (4, .int l4), (5, .int l5), (6, .int l6), (7, .int l7)] [] m) (l1 : Int32) (l2 : Int32) (l3 : Int32) (l4 : Int32) (l5 : Int32) (l6 : Int32) (l7 : Int32) (m : pMem) (hf : sX9_without_b83 k55 l1 l2 l3 l4 l5 l6 l7 m = some z) : gM E kX9_without z 83 [(0, .ref (eA E 9)), (1, .int l1), (2, .int l2), (3, .int l3), (4, .int l4), (5, .int l5), (6, .int l6), (7, .int l7)] [] m := by
  unfold sX9_without_b83 at hf
  refine g_aload_n (q := 0) dX9_without_83 rfl rfl ?_
  refine g_iload (q := 7) dX9_without_84 rfl ?_
  refine g_put dX9_without_86 fX9_298 fwX9_38 rfl rfl (obX9 E m) (Nat.le_of_ble_eq_true rfl) (psX9_38 E m _) ?_
  refine nmG hf (fun m20 hf => ?_)
  refine g_aload_n (q := 0) dX9_without_89 rfl rfl ?_
  refine g_iload_n (q := 1) dX9_without_90 rfl rfl ?_
  refine g_iload_n (q := 3) dX9_without_91 rfl rfl ?_
  obtain ⟨r21, m23, q22, hf⟩ := cbE_ hf
  refine g_cV (As := [.int l1, .int l3]) dX9_without_92 (tX9_boundOf E m20 l1 l3 q22) gyX9_boundOf giX9_boundOf gsX9_boundOf mX9_325 (⟨rfl, rfl, Nat.le_of_ble_eq_true rfl, Nat.le_of_ble_eq_true rfl, Nat.le_of_ble_eq_true rfl, Nat.le_of_ble_eq_true rfl⟩) rfl (obX9 E m20) rfl rfl rfl (Nat.le_of_ble_eq_true rfl) ?_
  refine g_iload_n (q := 2) dX9_without_95 rfl rfl ?_
  refine g_ishr dX9_without_96 ?_
  refine g_iconst (v := 1) dX9_without_97 kI_1 ?_
  refine g_iand dX9_without_98 ?_
  refine g_iconst (v := 1) dX9_without_99 kI_1 ?_
  refine g_icmp_ne (tgt := 107) dX9_without_100 (by decide) (fun c24 => ?_) (fun c24 => ?_)
  · have hf := it_ hf c24
    refine g_iconst (v := 0) dX9_without_107 kI_0 ?_
    exact wX9_without_b108 E z k55 ih55 l1 l2 l3 l4 l5 l6 l7 0 m23 hf
  · have hf := ie_ hf (not_not_intro c24)
    refine g_iconst (v := 1) dX9_without_103 kI_1 ?_
    refine g_goto (tgt := 108) dX9_without_104 (by decide) ?_
    exact wX9_without_b108 E z k55 ih55 l1 l2 l3 l4 l5 l6 l7 1 m23 hf
theorem wX9_without_b55 (E : pEv) (z : Int32 × pMem) (k55 : Int32 → Int32 → Int32 → Int32 → Int32 → Int32 → Int32 → pMem → gO) (ih55 : ∀ (l1 : Int32) (l2 : Int32) (l3 : Int32) (l4 : Int32) (l5 : Int32) (l6 : Int32) (l7 : Int32)  (m : pMem), k55 l1 l2 l3 l4 l5 l6 l7 m = some z → gM E kX9_without z 55 [(0, .ref (eA E 9)), (1, .int l1), (2, .int l2), (3, .int l3), (4, .int l4), (5, .int l5), (6, .int l6), (7, .int l7)] [] m) (l1 : Int32) (l2 : Int32) (l3 : Int32) (l4 : Int32) (l5 : Int32) (l6 : Int32) (l7 : Int32) (m : pMem) (hf : sX9_without_b55 k55 l1 l2 l3 l4 l5 l6 l7 m = some z) : gM E kX9_without z 55 [(0, .ref (eA E 9)), (1, .int l1), (2, .int l2), (3, .int l3), (4, .int l4), (5, .int l5), (6, .int l6), (7, .int l7)] [] m := by
  unfold sX9_without_b55 at hf
  refine g_iload (q := 7) dX9_without_55 rfl ?_
  refine g_iconst (v := 1) dX9_without_57 kI_1 ?_
  refine g_iload (q := 6) dX9_without_58 rfl ?_
  refine g_ishl dX9_without_60 ?_
  refine g_icmp_ge (tgt := 132) dX9_without_61 (by decide) (fun c12 => ?_) (fun c12 => ?_)
  · have hf := it_ hf c12
    refine g_aload_n (q := 0) dX9_without_132 rfl rfl ?_
    refine g_iconst (v := 0) dX9_without_133 kI_0 ?_
    refine g_put dX9_without_134 fX9_298 fwX9_38 rfl rfl (obX9 E m) (Nat.le_of_ble_eq_true rfl) (psX9_38 E m _) ?_
    refine nmG hf (fun m13 hf => ?_)
    refine g_iload (q := 5) dX9_without_137 rfl ?_
    exact g_ret dX9_without_139 rfl rfl (Option.some.inj hf).symm
  · have hf := ie_ hf c12
    refine g_iload (q := 5) dX9_without_64 rfl ?_
    refine g_iconst (v := (-1)) dX9_without_66 kI_m1 ?_
    refine g_icmp_eq (tgt := 83) dX9_without_67 (by decide) (fun c14 => ?_) (fun c14 => ?_)
    · have hf := it_ hf c14
      exact wX9_without_b83 E z k55 ih55 l1 l2 l3 l4 l5 l6 l7 m hf
    · have hf := ie_ hf c14
      refine g_iload (q := 7) dX9_without_70 rfl ?_
      obtain ⟨r15, q16, hf⟩ := cbR_ hf
      refine g_cS (As := [.int l7]) dX9_without_72 (tX9_bits E m l7 q16) gyX9_bits giX9_bits mX9_361 (⟨rfl, rfl, Nat.le_of_ble_eq_true rfl, Nat.le_of_ble_eq_true rfl, Nat.le_of_ble_eq_true rfl, Nat.le_of_ble_eq_true rfl⟩) rfl rfl rfl (Nat.le_of_ble_eq_true rfl) ?_
      refine g_iload (q := 5) dX9_without_75 rfl ?_
      obtain ⟨r17, q18, hf⟩ := cbR_ hf
      refine g_cS (As := [.int l5]) dX9_without_77 (tX9_bits E m l5 q18) gyX9_bits giX9_bits mX9_361 (⟨rfl, rfl, Nat.le_of_ble_eq_true rfl, Nat.le_of_ble_eq_true rfl, Nat.le_of_ble_eq_true rfl, Nat.le_of_ble_eq_true rfl⟩) rfl rfl rfl (Nat.le_of_ble_eq_true rfl) ?_
      refine g_icmp_ge (tgt := 126) dX9_without_80 (by decide) (fun c19 => ?_) (fun c19 => ?_)
      · have hf := it_ hf c19
        exact wX9_without_b126 E z k55 ih55 l1 l2 l3 l4 l5 l6 l7 m hf
      · have hf := ie_ hf c19
        exact wX9_without_b83 E z k55 ih55 l1 l2 l3 l4 l5 l6 l7 m hf
theorem wX9_without_l55 (E : pEv) (z : Int32 × pMem) : ∀ (n : Nat) (l1 : Int32) (l2 : Int32) (l3 : Int32) (l4 : Int32) (l5 : Int32) (l6 : Int32) (l7 : Int32) (m : pMem), sX9_without_l55 n l1 l2 l3 l4 l5 l6 l7 m = some z → gM E kX9_without z 55 [(0, .ref (eA E 9)), (1, .int l1), (2, .int l2), (3, .int l3), (4, .int l4), (5, .int l5), (6, .int l6), (7, .int l7)] [] m := by
  intro n
  induction n with
  | zero => intro l1 l2 l3 l4 l5 l6 l7 m  hf; cases (show (none : Option _) = some z from hf)
  | succ n ih => intro l1 l2 l3 l4 l5 l6 l7 m  hf; exact wX9_without_b55 E z  _  ih l1 l2 l3 l4 l5 l6 l7 m  hf
theorem wX9_without_b50 (E : pEv) (z : Int32 × pMem) (l1 : Int32) (l2 : Int32) (l3 : Int32) (l4 : Int32) (l5 : Int32) (t0 : Int32) (m : pMem) (hf : sX9_without_b50 l1 l2 l3 l4 l5 t0 m = some z) : gM E kX9_without z 50 [(0, .ref (eA E 9)), (1, .int l1), (2, .int l2), (3, .int l3), (4, .int l4), (5, .int l5)] [.int t0] m := by
  unfold sX9_without_b50 at hf
  refine g_istore dX9_without_50 (Nat.le_of_ble_eq_true rfl) rfl ?_
  refine g_iconst (v := 0) dX9_without_52 kI_0 ?_
  refine g_istore dX9_without_53 (Nat.le_of_ble_eq_true rfl) rfl ?_
  refine g_lv [2, 3, 4, 5, 6, 7, 1, 0] rfl ?_
  exact wX9_without_l55 E z  5000 l1 l2 l3 l4 l5 t0 0 m hf
theorem wX9_without_b0 (E : pEv) (z : Int32 × pMem) (a1 : Int32) (a2 : Int32) (a3 : Int32) (a4 : Int32) (m : pMem) (hf : sX9_without a1 a2 a3 a4 m = some z) : gM E kX9_without z 0 [(0, .ref (eA E 9)), (1, .int a1), (2, .int a2), (3, .int a3), (4, .int a4)] [] m := by
  unfold sX9_without at hf
  refine g_aload_n (q := 0) dX9_without_0 rfl rfl ?_
  refine g_iload_n (q := 1) dX9_without_1 rfl rfl ?_
  obtain ⟨r1, q2, hf⟩ := cbR_ hf
  refine g_cV (As := [.int a1]) dX9_without_2 (tX9_isPact E m a1 q2) gyX9_isPact giX9_isPact gsX9_isPact mX9_289 (⟨rfl, rfl, Nat.le_of_ble_eq_true rfl, Nat.le_of_ble_eq_true rfl, Nat.le_of_ble_eq_true rfl, Nat.le_of_ble_eq_true rfl⟩) rfl (obX9 E m) rfl rfl rfl (Nat.le_of_ble_eq_true rfl) ?_
  refine g_if_eq (tgt := 16) dX9_without_5 (by decide) (fun c3 => ?_) (fun c3 => ?_)
  · have hf := it_ hf c3
    refine g_lv [] rfl ?_
    exact wX9_without_b16 E z  m hf
  · have hf := ie_ hf c3
    refine g_aload_n (q := 0) dX9_without_8 rfl rfl ?_
    refine g_iload_n (q := 2) dX9_without_9 rfl rfl ?_
    obtain ⟨r4, q5, hf⟩ := cbR_ hf
    refine g_cV (As := [.int a2]) dX9_without_10 (tX9_isLand E m a2 q5) gyX9_isLand giX9_isLand gsX9_isLand mX9_187 (⟨rfl, rfl, Nat.le_of_ble_eq_true rfl, Nat.le_of_ble_eq_true rfl, Nat.le_of_ble_eq_true rfl, Nat.le_of_ble_eq_true rfl⟩) rfl (obX9 E m) rfl rfl rfl (Nat.le_of_ble_eq_true rfl) ?_
    refine g_if_ne (tgt := 19) dX9_without_13 (by decide) (fun c6 => ?_) (fun c6 => ?_)
    · have hf := it_ hf c6
      refine g_iload_n (q := 3) dX9_without_19 rfl rfl ?_
      obtain ⟨r7, q8, hf⟩ := cbR_ hf
      refine g_cS (As := [.int a3]) dX9_without_20 (tX9_isDay E m a3 q8) gyX9_isDay giX9_isDay mX9_165 (⟨rfl, rfl, Nat.le_of_ble_eq_true rfl, Nat.le_of_ble_eq_true rfl, Nat.le_of_ble_eq_true rfl, Nat.le_of_ble_eq_true rfl⟩) rfl rfl rfl (Nat.le_of_ble_eq_true rfl) ?_
      refine g_if_ne (tgt := 29) dX9_without_23 (by decide) (fun c9 => ?_) (fun c9 => ?_)
      · have hf := it_ hf c9
        refine g_iconst (v := (-1)) dX9_without_29 kI_m1 ?_
        refine nmI hf (fun x10 hf => ?_)
        refine g_istore dX9_without_30 (Nat.le_of_ble_eq_true rfl) rfl ?_
        refine g_aload_n (q := 1) dX9_without_32 rfl rfl ?_
        refine g_get dX9_without_33 fX9_292 (obX9 E m) (gvX9_32 E m) ?_
        refine g_bipush (v := 10) dX9_without_36 kB_10 ?_
        refine g_icmp_ge (tgt := 48) dX9_without_38 (by decide) (fun c11 => ?_) (fun c11 => ?_)
        · have hf := it_ hf c11
          refine g_bipush (v := 10) dX9_without_48 kB_10 ?_
          refine g_lv [1, 2, 3, 4, 5, 0] rfl ?_
          exact wX9_without_b50 E z  a1 a2 a3 a4 x10 10 m hf
        · have hf := ie_ hf c11
          refine g_aload_n (q := 1) dX9_without_41 rfl rfl ?_
          refine g_get dX9_without_42 fX9_292 (obX9 E m) (gvX9_32 E m) ?_
          refine g_goto (tgt := 50) dX9_without_45 (by decide) ?_
          refine g_lv [1, 2, 3, 4, 5, 0] rfl ?_
          exact wX9_without_b50 E z  a1 a2 a3 a4 x10 (m.1 9 32) m hf
      · have hf := ie_ hf (not_not_intro c9)
        refine g_bipush (v := (-3)) dX9_without_26 kB_m3 ?_
        exact g_ret dX9_without_28 rfl rfl (Option.some.inj hf).symm
    · have hf := ie_ hf (not_not_intro c6)
      refine g_lv [] rfl ?_
      exact wX9_without_b16 E z  m hf
theorem tX9_without (E : pEv) (m : pMem) (a1 : Int32) (a2 : Int32) (a3 : Int32) (a4 : Int32) {z : Int32 × pMem} (hf : sX9_without a1 a2 a3 a4 m = some z) : gCn E yX9_without kX9_without [.ref (eA E 9), .int a1, .int a2, .int a3, .int a4] m z := gCn_of (by decide +kernel) rfl rfl rfl (Nat.le_of_ble_eq_true rfl) rfl (wX9_without_b0 E z a1 a2 a3 a4 m  hf)
theorem wX9_word_b16 (E : pEv) (z : Int32 × pMem) (m : pMem) (hf : sX9_word_b16  m = some z) : gM E kX9_word z 16 [] [] m := by
  unfold sX9_word_b16 at hf
  refine g_bipush (v := (-2)) dX9_word_16 kB_m2 ?_
  exact g_ret dX9_word_18 rfl rfl (Option.some.inj hf).symm
theorem wX9_word_b0 (E : pEv) (z : Int32 × pMem) (a1 : Int32) (a2 : Int32) (a3 : Int32) (a4 : Int32) (a5 : Int32) (m : pMem) (hf : sX9_word a1 a2 a3 a4 a5 m = some z) : gM E kX9_word z 0 [(0, .ref (eA E 9)), (1, .int a1), (2, .int a2), (3, .int a3), (4, .int a4), (5, .int a5)] [] m := by
  unfold sX9_word at hf
  refine g_aload_n (q := 0) dX9_word_0 rfl rfl ?_
  refine g_iload_n (q := 1) dX9_word_1 rfl rfl ?_
  obtain ⟨r1, q2, hf⟩ := cbR_ hf
  refine g_cV (As := [.int a1]) dX9_word_2 (tX9_isPact E m a1 q2) gyX9_isPact giX9_isPact gsX9_isPact mX9_289 (⟨rfl, rfl, Nat.le_of_ble_eq_true rfl, Nat.le_of_ble_eq_true rfl, Nat.le_of_ble_eq_true rfl, Nat.le_of_ble_eq_true rfl⟩) rfl (obX9 E m) rfl rfl rfl (Nat.le_of_ble_eq_true rfl) ?_
  refine g_if_eq (tgt := 16) dX9_word_5 (by decide) (fun c3 => ?_) (fun c3 => ?_)
  · have hf := it_ hf c3
    refine g_lv [] rfl ?_
    exact wX9_word_b16 E z  m hf
  · have hf := ie_ hf c3
    refine g_aload_n (q := 0) dX9_word_8 rfl rfl ?_
    refine g_iload_n (q := 2) dX9_word_9 rfl rfl ?_
    obtain ⟨r4, q5, hf⟩ := cbR_ hf
    refine g_cV (As := [.int a2]) dX9_word_10 (tX9_isLand E m a2 q5) gyX9_isLand giX9_isLand gsX9_isLand mX9_187 (⟨rfl, rfl, Nat.le_of_ble_eq_true rfl, Nat.le_of_ble_eq_true rfl, Nat.le_of_ble_eq_true rfl, Nat.le_of_ble_eq_true rfl⟩) rfl (obX9 E m) rfl rfl rfl (Nat.le_of_ble_eq_true rfl) ?_
    refine g_if_ne (tgt := 19) dX9_word_13 (by decide) (fun c6 => ?_) (fun c6 => ?_)
    · have hf := it_ hf c6
      refine g_iload (q := 5) dX9_word_19 rfl ?_
      obtain ⟨r7, q8, hf⟩ := cbR_ hf
      refine g_cS (As := [.int a5]) dX9_word_21 (tX9_isDay E m a5 q8) gyX9_isDay giX9_isDay mX9_165 (⟨rfl, rfl, Nat.le_of_ble_eq_true rfl, Nat.le_of_ble_eq_true rfl, Nat.le_of_ble_eq_true rfl, Nat.le_of_ble_eq_true rfl⟩) rfl rfl rfl (Nat.le_of_ble_eq_true rfl) ?_
      refine g_if_ne (tgt := 30) dX9_word_24 (by decide) (fun c9 => ?_) (fun c9 => ?_)
      · have hf := it_ hf c9
        refine g_aload_n (q := 0) dX9_word_30 rfl rfl ?_
        refine g_get dX9_word_31 fX9_292 (obX9 E m) (gvX9_32 E m) ?_
        refine g_bipush (v := 24) dX9_word_34 kB_24 ?_
        refine g_icmp_ne (tgt := 42) dX9_word_36 (by decide) (fun c10 => ?_) (fun c10 => ?_)
        · have hf := it_ hf c10
          refine g_aload_n (q := 0) dX9_word_42 rfl rfl ?_
          refine g_get dX9_word_43 fX9_74 (obX9 E m) (gvX9_33 E m) ?_
          refine g_aload_n (q := 0) dX9_word_46 rfl rfl ?_
          refine g_get dX9_word_47 fX9_292 (obX9 E m) (gvX9_32 E m) ?_
          refine g_iload_n (q := 1) dX9_word_50 rfl rfl ?_
          obtain ⟨h11, hf⟩ := gd_ hf
          refine g_iast dX9_word_51 ar_84 h11 ?_
          refine nmG hf (fun m12 hf => ?_)
          refine g_aload_n (q := 0) dX9_word_52 rfl rfl ?_
          refine g_get dX9_word_53 fX9_77 (obX9 E m12) (gvX9_34 E m12) ?_
          refine g_aload_n (q := 0) dX9_word_56 rfl rfl ?_
          refine g_get dX9_word_57 fX9_292 (obX9 E m12) (gvX9_32 E m12) ?_
          refine g_iload_n (q := 2) dX9_word_60 rfl rfl ?_
          obtain ⟨h13, hf⟩ := gd_ hf
          refine g_iast dX9_word_61 ar_85 h13 ?_
          refine nmG hf (fun m14 hf => ?_)
          refine g_aload_n (q := 0) dX9_word_62 rfl rfl ?_
          refine g_get dX9_word_63 fX9_80 (obX9 E m14) (gvX9_35 E m14) ?_
          refine g_aload_n (q := 0) dX9_word_66 rfl rfl ?_
          refine g_get dX9_word_67 fX9_292 (obX9 E m14) (gvX9_32 E m14) ?_
          refine g_iload (q := 5) dX9_word_70 rfl ?_
          obtain ⟨h15, hf⟩ := gd_ hf
          refine g_iast dX9_word_72 ar_86 h15 ?_
          refine nmG hf (fun m16 hf => ?_)
          refine g_aload_n (q := 0) dX9_word_73 rfl rfl ?_
          refine g_get dX9_word_74 fX9_83 (obX9 E m16) (gvX9_36 E m16) ?_
          refine g_aload_n (q := 0) dX9_word_77 rfl rfl ?_
          refine g_get dX9_word_78 fX9_292 (obX9 E m16) (gvX9_32 E m16) ?_
          refine g_iload_n (q := 3) dX9_word_81 rfl rfl ?_
          obtain ⟨h17, hf⟩ := gd_ hf
          refine g_zast dX9_word_82 ar_87 h17 ?_
          refine nmG hf (fun m18 hf => ?_)
          refine g_aload_n (q := 0) dX9_word_83 rfl rfl ?_
          refine g_get dX9_word_84 fX9_87 (obX9 E m18) (gvX9_37 E m18) ?_
          refine g_aload_n (q := 0) dX9_word_87 rfl rfl ?_
          refine g_get dX9_word_88 fX9_292 (obX9 E m18) (gvX9_32 E m18) ?_
          refine g_iload (q := 4) dX9_word_91 rfl ?_
          obtain ⟨h19, hf⟩ := gd_ hf
          refine g_zast dX9_word_93 ar_88 h19 ?_
          refine nmG hf (fun m20 hf => ?_)
          refine g_aload_n (q := 0) dX9_word_94 rfl rfl ?_
          refine g_dup dX9_word_95 rfl ?_
          refine g_get dX9_word_96 fX9_292 (obX9 E m20) (gvX9_32 E m20) ?_
          refine g_iconst (v := 1) dX9_word_99 kI_1 ?_
          refine g_iadd dX9_word_100 ?_
          refine g_put dX9_word_101 fX9_292 fwX9_32 rfl rfl (obX9 E m20) (Nat.le_of_ble_eq_true rfl) (psX9_32 E m20 _) ?_
          refine nmG hf (fun m21 hf => ?_)
          refine g_aload_n (q := 0) dX9_word_104 rfl rfl ?_
          refine g_get dX9_word_105 fX9_292 (obX9 E m21) (gvX9_32 E m21) ?_
          exact g_ret dX9_word_108 rfl rfl (Option.some.inj hf).symm
        · have hf := ie_ hf (not_not_intro c10)
          refine g_bipush (v := (-5)) dX9_word_39 kB_m5 ?_
          exact g_ret dX9_word_41 rfl rfl (Option.some.inj hf).symm
      · have hf := ie_ hf (not_not_intro c9)
        refine g_bipush (v := (-3)) dX9_word_27 kB_m3 ?_
        exact g_ret dX9_word_29 rfl rfl (Option.some.inj hf).symm
    · have hf := ie_ hf (not_not_intro c6)
      refine g_lv [] rfl ?_
      exact wX9_word_b16 E z  m hf
theorem tX9_word (E : pEv) (m : pMem) (a1 : Int32) (a2 : Int32) (a3 : Int32) (a4 : Int32) (a5 : Int32) {z : Int32 × pMem} (hf : sX9_word a1 a2 a3 a4 a5 m = some z) : gCn E yX9_word kX9_word [.ref (eA E 9), .int a1, .int a2, .int a3, .int a4, .int a5] m z := gCn_of (by decide +kernel) rfl rfl rfl (Nat.le_of_ble_eq_true rfl) rfl (wX9_word_b0 E z a1 a2 a3 a4 a5 m  hf)
theorem wX9_write_b31 (E : pEv) (z : Int32 × pMem) (k31 : Int64 → Int32 → Int32 → pMem → gO) (ih31 : ∀ (l1 : Int64) (l3 : Int32) (l4 : Int32)  (m : pMem), k31 l1 l3 l4 m = some z → gM E kX9_write z 31 [(0, .ref (eA E 9)), (1, .long l1), (3, .int l3), (4, .int l4)] [] m) (l1 : Int64) (l3 : Int32) (l4 : Int32) (m : pMem) (hf : sX9_write_b31 k31 l1 l3 l4 m = some z) : gM E kX9_write z 31 [(0, .ref (eA E 9)), (1, .long l1), (3, .int l3), (4, .int l4)] [] m := by
  unfold sX9_write_b31 at hf
  refine g_iload (q := 3) dX9_write_31 rfl ?_
  refine g_iload_n (q := 2) dX9_write_33 rfl rfl ?_
  refine g_icmp_ge (tgt := 67) dX9_write_34 (by decide) (fun c5 => ?_) (fun c5 => ?_)
  · have hf := it_ hf c5
    refine g_aload_n (q := 0) dX9_write_67 rfl rfl ?_
    refine g_dup dX9_write_68 rfl ?_
    refine g_get dX9_write_69 fX9_202 (obX9 E m) (gvX9_15 E m) ?_
    refine g_iload_n (q := 2) dX9_write_72 rfl rfl ?_
    refine g_iadd dX9_write_73 ?_
    refine g_put dX9_write_74 fX9_202 fwX9_15 rfl rfl (obX9 E m) (Nat.le_of_ble_eq_true rfl) (psX9_15 E m _) ?_
    refine nmG hf (fun m6 hf => ?_)
    refine g_aload_n (q := 0) dX9_write_77 rfl rfl ?_
    refine g_get dX9_write_78 fX9_202 (obX9 E m6) (gvX9_15 E m6) ?_
    exact g_ret dX9_write_81 rfl rfl (Option.some.inj hf).symm
  · have hf := ie_ hf c5
    refine g_aload_n (q := 0) dX9_write_37 rfl rfl ?_
    refine g_get dX9_write_38 fX9_50 (obX9 E m) (gvX9_16 E m) ?_
    refine g_aload_n (q := 0) dX9_write_41 rfl rfl ?_
    refine g_get dX9_write_42 fX9_202 (obX9 E m) (gvX9_15 E m) ?_
    refine g_iload (q := 3) dX9_write_45 rfl ?_
    refine g_iadd dX9_write_47 ?_
    refine g_lload_n (q := 1) dX9_write_48 rfl rfl ?_
    refine g_bipush (v := 8) dX9_write_49 kB_8 ?_
    refine g_iload (q := 3) dX9_write_51 rfl ?_
    refine g_imul dX9_write_53 ?_
    refine g_lshr dX9_write_54 ?_
    refine g_ldc2 dX9_write_55 cX9_205 ?_
    refine g_land dX9_write_58 ?_
    refine g_l2i dX9_write_59 ?_
    obtain ⟨h7, hf⟩ := gd_ hf
    refine g_iast dX9_write_60 ar_76 h7 ?_
    refine nmG hf (fun m8 hf => ?_)
    refine g_iinc (q := 3) (v := l4 + 1) dX9_write_61 rfl (by rw [kI_1]) (Nat.le_of_ble_eq_true rfl) rfl ?_
    refine g_goto (tgt := 31) dX9_write_64 (by decide) ?_
    refine g_lv [1, 2, 3, 0] rfl ?_
    exact ih31 l1 l3 (l4 + 1) m8 hf
theorem wX9_write_l31 (E : pEv) (z : Int32 × pMem) : ∀ (n : Nat) (l1 : Int64) (l3 : Int32) (l4 : Int32) (m : pMem), sX9_write_l31 n l1 l3 l4 m = some z → gM E kX9_write z 31 [(0, .ref (eA E 9)), (1, .long l1), (3, .int l3), (4, .int l4)] [] m := by
  intro n
  induction n with
  | zero => intro l1 l3 l4 m  hf; cases (show (none : Option _) = some z from hf)
  | succ n ih => intro l1 l3 l4 m  hf; exact wX9_write_b31 E z  _  ih l1 l3 l4 m  hf
theorem wX9_write_b0 (E : pEv) (z : Int32 × pMem) (a1 : Int64) (a2 : Int32) (m : pMem) (hf : sX9_write a1 a2 m = some z) : gM E kX9_write z 0 [(0, .ref (eA E 9)), (1, .long a1), (3, .int a2)] [] m := by
  unfold sX9_write at hf
  refine g_iload_n (q := 2) dX9_write_0 rfl rfl ?_
  refine g_iconst (v := 1) dX9_write_1 kI_1 ?_
  refine g_bipush (v := 8) dX9_write_2 kB_8 ?_
  obtain ⟨r1, q2, hf⟩ := cbR_ hf
  refine g_cS (As := [.int a2, .int 1, .int 8]) dX9_write_4 (tX9_in E m a2 1 8 q2) gyX9_in giX9_in mX9_148 (⟨rfl, rfl, Nat.le_of_ble_eq_true rfl, Nat.le_of_ble_eq_true rfl, Nat.le_of_ble_eq_true rfl, Nat.le_of_ble_eq_true rfl⟩) rfl rfl rfl (Nat.le_of_ble_eq_true rfl) ?_
  refine g_if_ne (tgt := 13) dX9_write_7 (by decide) (fun c3 => ?_) (fun c3 => ?_)
  · have hf := it_ hf c3
    refine g_aload_n (q := 0) dX9_write_13 rfl rfl ?_
    refine g_get dX9_write_14 fX9_202 (obX9 E m) (gvX9_15 E m) ?_
    refine g_iload_n (q := 2) dX9_write_17 rfl rfl ?_
    refine g_iadd dX9_write_18 ?_
    refine g_sipush (v := 160) dX9_write_19 kS_160 ?_
    refine g_icmp_le (tgt := 28) dX9_write_22 (by decide) (fun c4 => ?_) (fun c4 => ?_)
    · have hf := it_ hf c4
      refine g_iconst (v := 0) dX9_write_28 kI_0 ?_
      refine g_istore dX9_write_29 (Nat.le_of_ble_eq_true rfl) rfl ?_
      refine g_lv [1, 2, 3, 0] rfl ?_
      exact wX9_write_l31 E z  5000 a1 a2 0 m hf
    · have hf := ie_ hf c4
      refine g_bipush (v := (-5)) dX9_write_25 kB_m5 ?_
      exact g_ret dX9_write_27 rfl rfl (Option.some.inj hf).symm
  · have hf := ie_ hf (not_not_intro c3)
    refine g_bipush (v := (-3)) dX9_write_10 kB_m3 ?_
    exact g_ret dX9_write_12 rfl rfl (Option.some.inj hf).symm
theorem tX9_write (E : pEv) (m : pMem) (a1 : Int64) (a2 : Int32) {z : Int32 × pMem} (hf : sX9_write a1 a2 m = some z) : gCn E yX9_write kX9_write [.ref (eA E 9), .long a1, .int a2] m z := gCn_of (by decide +kernel) rfl rfl rfl (Nat.le_of_ble_eq_true rfl) rfl (wX9_write_b0 E z a1 a2 m  hf)
