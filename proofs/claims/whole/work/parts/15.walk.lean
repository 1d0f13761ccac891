/-! walks (printed) -/
theorem wX9_byRank_b83 (E : pEv) (z : Int32) (k3 : Int32 → Int32 → Int32 → Int32 → pMem → (Option Int32)) (k44 : Int32 → Int32 → Int32 → Int32 → Int32 → Int32 → pMem → (Option Int32)) (ih3 : ∀ (l1 : Int32) (l2 : Int32) (l3 : Int32) (l4 : Int32)  (m : pMem), k3 l1 l2 l3 l4 m = some z → gM E kX9_byRank (z, m) 3 [(0, .ref (eA E 9)), (1, .int l1), (2, .int l2), (3, .int l3), (4, .int l4)] [] m) (ih44 : ∀ (l1 : Int32) (l2 : Int32) (l3 : Int32) (l4 : Int32) (l5 : Int32) (l6 : Int32)  (m : pMem), k44 l1 l2 l3 l4 l5 l6 m = some z → gM E kX9_byRank (z, m) 44 [(0, .ref (eA E 9)), (1, .int l1), (2, .int l2), (3, .int l3), (4, .int l4), (5, .int l5), (6, .int l6)] [] m) (l1 : Int32) (l2 : Int32) (l3 : Int32) (l4 : Int32) (l6 : Int32) (t0 : Int32) (m : pMem) (hf : sX9_byRank_b83 k3 k44 l1 l2 l3 l4 l6 t0 m = some z) : gM E kX9_byRank (z, m) 83 [(0, .ref (eA E 9)), (1, .int l1), (2, .int l2), (3, .int l3), (4, .int l4), (6, .int l6)] [.int t0] m := by
  unfold sX9_byRank_b83 at hf
  refine g_istore dX9_byRank_83 (Nat.le_of_ble_eq_true rfl) rfl ?_
  refine g_iinc (q := 6) (v := l6 + 1) dX9_byRank_85 rfl (by rw [kI_1]) (Nat.le_of_ble_eq_true rfl) rfl ?_
  refine g_goto (tgt := 44) dX9_byRank_88 (by decide) ?_
  refine g_lv [2, 3, 4, 5, 6, 1, 0] rfl ?_
  exact ih44 l1 l2 l3 l4 t0 (l6 + 1) m hf
theorem wX9_byRank_b82 (E : pEv) (z : Int32) (k3 : Int32 → Int32 → Int32 → Int32 → pMem → (Option Int32)) (k44 : Int32 → Int32 → Int32 → Int32 → Int32 → Int32 → pMem → (Option Int32)) (ih3 : ∀ (l1 : Int32) (l2 : Int32) (l3 : Int32) (l4 : Int32)  (m : pMem), k3 l1 l2 l3 l4 m = some z → gM E kX9_byRank (z, m) 3 [(0, .ref (eA E 9)), (1, .int l1), (2, .int l2), (3, .int l3), (4, .int l4)] [] m) (ih44 : ∀ (l1 : Int32) (l2 : Int32) (l3 : Int32) (l4 : Int32) (l5 : Int32) (l6 : Int32)  (m : pMem), k44 l1 l2 l3 l4 l5 l6 m = some z → gM E kX9_byRank (z, m) 44 [(0, .ref (eA E 9)), (1, .int l1), (2, .int l2), (3, .int l3), (4, .int l4), (5, .int l5), (6, .int l6)] [] m) (l1 : Int32) (l2 : Int32) (l3 : Int32) (l4 : Int32) (l6 : Int32) (m : pMem) (hf : sX9_byRank_b82 k3 k44 l1 l2 l3 l4 l6 m = some z) : gM E kX9_byRank (z, m) 82 [(0, .ref (eA E 9)), (1, .int l1), (2, .int l2), (3, .int l3), (4, .int l4), (6, .int l6)] [] m := by
  unfold sX9_byRank_b82 at hf
  refine g_iconst (v := 0) dX9_byRank_82 kI_0 ?_
  exact wX9_byRank_b83 E z k3 k44 ih3 ih44 l1 l2 l3 l4 l6 0 m hf
theorem wX9_byRank_b78 (E : pEv) (z : Int32) (k3 : Int32 → Int32 → Int32 → Int32 → pMem → (Option Int32)) (k44 : Int32 → Int32 → Int32 → Int32 → Int32 → Int32 → pMem → (Option Int32)) (ih3 : ∀ (l1 : Int32) (l2 : Int32) (l3 : Int32) (l4 : Int32)  (m : pMem), k3 l1 l2 l3 l4 m = some z → gM E kX9_byRank (z, m) 3 [(0, .ref (eA E 9)), (1, .int l1), (2, .int l2), (3, .int l3), (4, .int l4)] [] m) (ih44 : ∀ (l1 : Int32) (l2 : Int32) (l3 : Int32) (l4 : Int32) (l5 : Int32) (l6 : Int32)  (m : pMem), k44 l1 l2 l3 l4 l5 l6 m = some z → gM E kX9_byRank (z, m) 44 [(0, .ref (eA E 9)), (1, .int l1), (2, .int l2), (3, .int l3), (4, .int l4), (5, .int l5), (6, .int l6)] [] m) (l1 : Int32) (l2 : Int32) (l3 : Int32) (l4 : Int32) (l6 : Int32) (m : pMem) (hf : sX9_byRank_b78 k3 k44 l1 l2 l3 l4 l6 m = some z) : gM E kX9_byRank (z, m) 78 [(0, .ref (eA E 9)), (1, .int l1), (2, .int l2), (3, .int l3), (4, .int l4), (6, .int l6)] [] m := by
  unfold sX9_byRank_b78 at hf
  refine g_iconst (v := 1) dX9_byRank_78 kI_1 ?_
  refine g_goto (tgt := 83) dX9_byRank_79 (by decide) ?_
  exact wX9_byRank_b83 E z k3 k44 ih3 ih44 l1 l2 l3 l4 l6 1 m hf
theorem wX9_byRank_b111 (E : pEv) (z : Int32) (k3 : Int32 → Int32 → Int32 → Int32 → pMem → (Option Int32)) (ih3 : ∀ (l1 : Int32) (l2 : Int32) (l3 : Int32) (l4 : Int32)  (m : pMem), k3 l1 l2 l3 l4 m = some z → gM E kX9_byRank (z, m) 3 [(0, .ref (eA E 9)), (1, .int l1), (2, .int l2), (3, .int l3), (4, .int l4)] [] m) (l1 : Int32) (l2 : Int32) (l3 : Int32) (l4 : Int32) (m : pMem) (hf : sX9_byRank_b111 k3 l1 l2 l3 l4 m = some z) : gM E kX9_byRank (z, m) 111 [(0, .ref (eA E 9)), (1, .int l1), (2, .int l2), (3, .int l3), (4, .int l4)] [] m := by
  unfold sX9_byRank_b111 at hf
  refine g_iinc (q := 4) (v := l4 + 1) dX9_byRank_111 rfl (by rw [kI_1]) (Nat.le_of_ble_eq_true rfl) rfl ?_
  refine g_goto (tgt := 3) dX9_byRank_114 (by decide) ?_
  refine g_lv [1, 2, 3, 4, 0] rfl ?_
  exact ih3 l1 l2 l3 (l4 + 1) m hf
theorem wX9_byRank_b44 (E : pEv) (z : Int32) (k3 : Int32 → Int32 → Int32 → Int32 → pMem → (Option Int32)) (k44 : Int32 → Int32 → Int32 → Int32 → Int32 → Int32 → pMem → (Option Int32)) (ih3 : ∀ (l1 : Int32) (l2 : Int32) (l3 : Int32) (l4 : Int32)  (m : pMem), k3 l1 l2 l3 l4 m = some z → gM E kX9_byRank (z, m) 3 [(0, .ref (eA E 9)), (1, .int l1), (2, .int l2), (3, .int l3), (4, .int l4)] [] m) (ih44 : ∀ (l1 : Int32) (l2 : Int32) (l3 : Int32) (l4 : Int32) (l5 : Int32) (l6 : Int32)  (m : pMem), k44 l1 l2 l3 l4 l5 l6 m = some z → gM E kX9_byRank (z, m) 44 [(0, .ref (eA E 9)), (1, .int l1), (2, .int l2), (3, .int l3), (4, .int l4), (5, .int l5), (6, .int l6)] [] m) (l1 : Int32) (l2 : Int32) (l3 : Int32) (l4 : Int32) (l5 : Int32) (l6 : Int32) (m : pMem) (hf : sX9_byRank_b44 k3 k44 l1 l2 l3 l4 l5 l6 m = some z) : gM E kX9_byRank (z, m) 44 [(0, .ref (eA E 9)), (1, .int l1), (2, .int l2), (3, .int l3), (4, .int l4), (5, .int l5), (6, .int l6)] [] m := by
  unfold sX9_byRank_b44 at hf
  refine g_iload (q := 6) dX9_byRank_44 rfl ?_
  refine g_iload_n (q := 2) dX9_byRank_46 rfl rfl ?_
  refine g_icmp_ge (tgt := 91) dX9_byRank_47 (by decide) (fun c10 => ?_) (fun c10 => ?_)
  · have hf := it_ hf c10
    refine g_iload (q := 5) dX9_byRank_91 rfl ?_
    refine g_if_eq (tgt := 111) dX9_byRank_93 (by decide) (fun c11 => ?_) (fun c11 => ?_)
    · have hf := it_ hf c11
      refine g_lv [0, 1, 2, 3, 4] rfl ?_
      exact wX9_byRank_b111 E z k3 ih3 l1 l2 l3 l4 m hf
    · have hf := ie_ hf c11
      refine g_aload_n (q := 0) dX9_byRank_96 rfl rfl ?_
      refine g_iload (q := 4) dX9_byRank_97 rfl ?_
      refine g_iload_n (q := 3) dX9_byRank_99 rfl rfl ?_
      obtain ⟨r12, q13, hf⟩ := cbR_ hf
      refine g_cV (As := [.int l4, .int l3]) dX9_byRank_100 (tX9_isRecognized E m l4 l3 q13) gyX9_isRecognized giX9_isRecognized gsX9_isRecognized mX9_316 (⟨rfl, rfl, Nat.le_of_ble_eq_true rfl, Nat.le_of_ble_eq_true rfl, Nat.le_of_ble_eq_true rfl, Nat.le_of_ble_eq_true rfl⟩) rfl (obX9 E m) rfl rfl rfl (Nat.le_of_ble_eq_true rfl) ?_
      refine g_if_eq (tgt := 111) dX9_byRank_103 (by decide) (fun c14 => ?_) (fun c14 => ?_)
      · have hf := it_ hf c14
        refine g_lv [0, 1, 2, 3, 4] rfl ?_
        exact wX9_byRank_b111 E z k3 ih3 l1 l2 l3 l4 m hf
      · have hf := ie_ hf c14
        refine g_iconst (v := 1) dX9_byRank_106 kI_1 ?_
        refine g_iload (q := 4) dX9_byRank_107 rfl ?_
        refine g_ishl dX9_byRank_109 ?_
        exact g_ret dX9_byRank_110 rfl rfl (by rw [Option.some.inj hf])
  · have hf := ie_ hf c10
    refine g_iload (q := 5) dX9_byRank_50 rfl ?_
    refine g_if_ne (tgt := 78) dX9_byRank_52 (by decide) (fun c15 => ?_) (fun c15 => ?_)
    · have hf := it_ hf c15
      refine g_lv [0, 1, 2, 3, 4, 6] rfl ?_
      exact wX9_byRank_b78 E z k3 k44 ih3 ih44 l1 l2 l3 l4 l6 m hf
    · have hf := ie_ hf (not_not_intro c15)
      refine g_aload_n (q := 0) dX9_byRank_55 rfl rfl ?_
      refine g_get dX9_byRank_56 fX9_26 (obX9 E m) (gvX9_7 E m) ?_
      refine g_iload (q := 6) dX9_byRank_59 rfl ?_
      obtain ⟨h16, hf⟩ := gd_ hf
      refine g_iald dX9_byRank_61 ar_68 h16 ?_
      refine g_iconst (v := 4) dX9_byRank_62 kI_4 ?_
      refine g_icmp_ne (tgt := 82) dX9_byRank_63 (by decide) (fun c17 => ?_) (fun c17 => ?_)
      · have hf := it_ hf c17
        refine g_lv [0, 1, 2, 3, 4, 6] rfl ?_
        exact wX9_byRank_b82 E z k3 k44 ih3 ih44 l1 l2 l3 l4 l6 m hf
      · have hf := ie_ hf (not_not_intro c17)
        refine g_aload_n (q := 0) dX9_byRank_66 rfl rfl ?_
        refine g_get dX9_byRank_67 fX9_32 (obX9 E m) (gvX9_9 E m) ?_
        refine g_iload (q := 6) dX9_byRank_70 rfl ?_
        obtain ⟨h18, hf⟩ := gd_ hf
        refine g_iald dX9_byRank_72 ar_70 h18 ?_
        refine g_iload (q := 4) dX9_byRank_73 rfl ?_
        refine g_icmp_ne (tgt := 82) dX9_byRank_75 (by decide) (fun c19 => ?_) (fun c19 => ?_)
        · have hf := it_ hf c19
          refine g_lv [0, 1, 2, 3, 4, 6] rfl ?_
          exact wX9_byRank_b82 E z k3 k44 ih3 ih44 l1 l2 l3 l4 l6 m hf
        · have hf := ie_ hf (not_not_intro c19)
          refine g_lv [0, 1, 2, 3, 4, 6] rfl ?_
          exact wX9_byRank_b78 E z k3 k44 ih3 ih44 l1 l2 l3 l4 l6 m hf
theorem wX9_byRank_l44 (E : pEv) (z : Int32) (k3 : Int32 → Int32 → Int32 → Int32 → pMem → (Option Int32)) (ih3 : ∀ (l1 : Int32) (l2 : Int32) (l3 : Int32) (l4 : Int32)  (m : pMem), k3 l1 l2 l3 l4 m = some z → gM E kX9_byRank (z, m) 3 [(0, .ref (eA E 9)), (1, .int l1), (2, .int l2), (3, .int l3), (4, .int l4)] [] m) : ∀ (n : Nat) (l1 : Int32) (l2 : Int32) (l3 : Int32) (l4 : Int32) (l5 : Int32) (l6 : Int32) (m : pMem), sX9_byRank_l44 k3 n l1 l2 l3 l4 l5 l6 m = some z → gM E kX9_byRank (z, m) 44 [(0, .ref (eA E 9)), (1, .int l1), (2, .int l2), (3, .int l3), (4, .int l4), (5, .int l5), (6, .int l6)] [] m := by
  intro n
  induction n with
  | zero => intro l1 l2 l3 l4 l5 l6 m  hf; cases (show (none : Option _) = some z from hf)
  | succ n ih => intro l1 l2 l3 l4 l5 l6 m  hf; exact wX9_byRank_b44 E z k3 _ ih3 ih l1 l2 l3 l4 l5 l6 m  hf
theorem wX9_byRank_b3 (E : pEv) (z : Int32) (k3 : Int32 → Int32 → Int32 → Int32 → pMem → (Option Int32)) (ih3 : ∀ (l1 : Int32) (l2 : Int32) (l3 : Int32) (l4 : Int32)  (m : pMem), k3 l1 l2 l3 l4 m = some z → gM E kX9_byRank (z, m) 3 [(0, .ref (eA E 9)), (1, .int l1), (2, .int l2), (3, .int l3), (4, .int l4)] [] m) (l1 : Int32) (l2 : Int32) (l3 : Int32) (l4 : Int32) (m : pMem) (hf : sX9_byRank_b3 k3 l1 l2 l3 l4 m = some z) : gM E kX9_byRank (z, m) 3 [(0, .ref (eA E 9)), (1, .int l1), (2, .int l2), (3, .int l3), (4, .int l4)] [] m := by
  unfold sX9_byRank_b3 at hf
  refine g_iload (q := 4) dX9_byRank_3 rfl ?_
  refine g_aload_n (q := 0) dX9_byRank_5 rfl rfl ?_
  refine g_get dX9_byRank_6 fX9_16 (obX9 E m) (gvX9_3 E m) ?_
  refine g_icmp_ge (tgt := 117) dX9_byRank_9 (by decide) (fun c1 => ?_) (fun c1 => ?_)
  · have hf := it_ hf c1
    refine g_aload_n (q := 0) dX9_byRank_117 rfl rfl ?_
    refine g_get dX9_byRank_118 fX9_47 (obX9 E m) (gvX9_14 E m) ?_
    refine g_iload_n (q := 2) dX9_byRank_121 rfl rfl ?_
    obtain ⟨h2, hf⟩ := gd_ hf
    refine g_iald dX9_byRank_122 ar_75 h2 ?_
    refine g_iconst (v := 1) dX9_byRank_123 kI_1 ?_
    refine g_aload_n (q := 0) dX9_byRank_124 rfl rfl ?_
    refine g_get dX9_byRank_125 fX9_62 (obX9 E m) (gvX9_28 E m) ?_
    refine g_iload_n (q := 1) dX9_byRank_128 rfl rfl ?_
    obtain ⟨h3, hf⟩ := gd_ hf
    refine g_iald dX9_byRank_129 ar_80 h3 ?_
    refine g_ishl dX9_byRank_130 ?_
    refine g_iand dX9_byRank_131 ?_
    exact g_ret dX9_byRank_132 rfl rfl (by rw [Option.some.inj hf])
  · have hf := ie_ hf c1
    refine g_aload_n (q := 0) dX9_byRank_12 rfl rfl ?_
    refine g_iload (q := 4) dX9_byRank_13 rfl ?_
    refine g_iload_n (q := 2) dX9_byRank_15 rfl rfl ?_
    obtain ⟨r4, q5, hf⟩ := cbR_ hf
    refine g_cV (As := [.int l4, .int l2]) dX9_byRank_16 (tX9_isThere E m l4 l2 q5) gyX9_isThere giX9_isThere gsX9_isThere mX9_172 (⟨rfl, rfl, Nat.le_of_ble_eq_true rfl, Nat.le_of_ble_eq_true rfl, Nat.le_of_ble_eq_true rfl, Nat.le_of_ble_eq_true rfl⟩) rfl (obX9 E m) rfl rfl rfl (Nat.le_of_ble_eq_true rfl) ?_
    refine g_if_eq (tgt := 111) dX9_byRank_19 (by decide) (fun c6 => ?_) (fun c6 => ?_)
    · have hf := it_ hf c6
      exact wX9_byRank_b111 E z k3 ih3 l1 l2 l3 l4 m hf
    · have hf := ie_ hf c6
      refine g_aload_n (q := 0) dX9_byRank_22 rfl rfl ?_
      refine g_get dX9_byRank_23 fX9_20 (obX9 E m) (gvX9_4 E m) ?_
      refine g_iload (q := 4) dX9_byRank_26 rfl ?_
      obtain ⟨h7, hf⟩ := gd_ hf
      refine g_iald dX9_byRank_28 ar_66 h7 ?_
      refine g_aload_n (q := 0) dX9_byRank_29 rfl rfl ?_
      refine g_get dX9_byRank_30 fX9_62 (obX9 E m) (gvX9_28 E m) ?_
      refine g_iload_n (q := 1) dX9_byRank_33 rfl rfl ?_
      obtain ⟨h8, hf⟩ := gd_ hf
      refine g_iald dX9_byRank_34 ar_80 h8 ?_
      refine g_icmp_ne (tgt := 111) dX9_byRank_35 (by decide) (fun c9 => ?_) (fun c9 => ?_)
      · have hf := it_ hf c9
        exact wX9_byRank_b111 E z k3 ih3 l1 l2 l3 l4 m hf
      · have hf := ie_ hf (not_not_intro c9)
        refine g_iconst (v := 0) dX9_byRank_38 kI_0 ?_
        refine g_istore dX9_byRank_39 (Nat.le_of_ble_eq_true rfl) rfl ?_
        refine g_iconst (v := 0) dX9_byRank_41 kI_0 ?_
        refine g_istore dX9_byRank_42 (Nat.le_of_ble_eq_true rfl) rfl ?_
        refine g_lv [2, 3, 4, 5, 6, 1, 0] rfl ?_
        exact wX9_byRank_l44 E z k3 ih3 5000 l1 l2 l3 l4 0 0 m hf
theorem wX9_byRank_l3 (E : pEv) (z : Int32) : ∀ (n : Nat) (l1 : Int32) (l2 : Int32) (l3 : Int32) (l4 : Int32) (m : pMem), sX9_byRank_l3 n l1 l2 l3 l4 m = some z → gM E kX9_byRank (z, m) 3 [(0, .ref (eA E 9)), (1, .int l1), (2, .int l2), (3, .int l3), (4, .int l4)] [] m := by
  intro n
  induction n with
  | zero => intro l1 l2 l3 l4 m  hf; cases (show (none : Option _) = some z from hf)
  | succ n ih => intro l1 l2 l3 l4 m  hf; exact wX9_byRank_b3 E z  _  ih l1 l2 l3 l4 m  hf
theorem wX9_byRank_b0 (E : pEv) (z : Int32) (a1 : Int32) (a2 : Int32) (a3 : Int32) (m : pMem) (hf : sX9_byRank a1 a2 a3 m = some z) : gM E kX9_byRank (z, m) 0 [(0, .ref (eA E 9)), (1, .int a1), (2, .int a2), (3, .int a3)] [] m := by
  unfold sX9_byRank at hf
  refine g_iconst (v := 0) dX9_byRank_0 kI_0 ?_
  refine g_istore dX9_byRank_1 (Nat.le_of_ble_eq_true rfl) rfl ?_
  refine g_lv [1, 2, 3, 4, 0] rfl ?_
  exact wX9_byRank_l3 E z  5000 a1 a2 a3 0 m hf
theorem tX9_byRank (E : pEv) (m : pMem) (a1 : Int32) (a2 : Int32) (a3 : Int32) {z : Int32} (hf : sX9_byRank a1 a2 a3 m = some z) : gCn E yX9_byRank kX9_byRank [.ref (eA E 9), .int a1, .int a2, .int a3] m (z, m) := gCn_of (by decide +kernel) rfl rfl rfl (Nat.le_of_ble_eq_true rfl) rfl (wX9_byRank_b0 E z a1 a2 a3 m  hf)
theorem wX9_comesBy_b56 (E : pEv) (z : Int32) (t0 : Int32) (m : pMem) (hf : sX9_comesBy_b56 t0 m = some z) : gM E kX9_comesBy (z, m) 56 [] [.int t0] m := by
  unfold sX9_comesBy_b56 at hf
  exact g_retz dX9_comesBy_56 rfl (by rw [Option.some.inj hf])
theorem wX9_comesBy_b51 (E : pEv) (z : Int32) (m : pMem) (hf : sX9_comesBy_b51  m = some z) : gM E kX9_comesBy (z, m) 51 [] [] m := by
  unfold sX9_comesBy_b51 at hf
  refine g_iconst (v := 1) dX9_comesBy_51 kI_1 ?_
  refine g_goto (tgt := 56) dX9_comesBy_52 (by decide) ?_
  exact wX9_comesBy_b56 E z  1 m hf
theorem wX9_comesBy_b55 (E : pEv) (z : Int32) (m : pMem) (hf : sX9_comesBy_b55  m = some z) : gM E kX9_comesBy (z, m) 55 [] [] m := by
  unfold sX9_comesBy_b55 at hf
  refine g_iconst (v := 0) dX9_comesBy_55 kI_0 ?_
  exact wX9_comesBy_b56 E z  0 m hf
theorem wX9_comesBy_b19 (E : pEv) (z : Int32) (l1 : Int32) (l2 : Int32) (m : pMem) (hf : sX9_comesBy_b19 l1 l2 m = some z) : gM E kX9_comesBy (z, m) 19 [(0, .ref (eA E 9)), (1, .int l1), (2, .int l2)] [] m := by
  unfold sX9_comesBy_b19 at hf
  refine g_aload_n (q := 0) dX9_comesBy_19 rfl rfl ?_
  refine g_get dX9_comesBy_20 fX9_26 (obX9 E m) (gvX9_7 E m) ?_
  refine g_iload_n (q := 2) dX9_comesBy_23 rfl rfl ?_
  obtain ⟨h5, hf⟩ := gd_ hf
  refine g_iald dX9_comesBy_24 ar_68 h5 ?_
  refine g_iconst (v := 1) dX9_comesBy_25 kI_1 ?_
  refine g_icmp_ne (tgt := 55) dX9_comesBy_26 (by decide) (fun c6 => ?_) (fun c6 => ?_)
  · have hf := it_ hf c6
    refine g_lv [] rfl ?_
    exact wX9_comesBy_b55 E z  m hf
  · have hf := ie_ hf (not_not_intro c6)
    refine g_aload_n (q := 0) dX9_comesBy_29 rfl rfl ?_
    refine g_get dX9_comesBy_30 fX9_41 (obX9 E m) (gvX9_12 E m) ?_
    refine g_iload_n (q := 2) dX9_comesBy_33 rfl rfl ?_
    obtain ⟨h7, hf⟩ := gd_ hf
    refine g_iald dX9_comesBy_34 ar_73 h7 ?_
    refine g_iload_n (q := 1) dX9_comesBy_35 rfl rfl ?_
    refine g_icmp_eq (tgt := 51) dX9_comesBy_36 (by decide) (fun c8 => ?_) (fun c8 => ?_)
    · have hf := it_ hf c8
      refine g_lv [] rfl ?_
      exact wX9_comesBy_b51 E z  m hf
    · have hf := ie_ hf c8
      refine g_aload_n (q := 0) dX9_comesBy_39 rfl rfl ?_
      refine g_get dX9_comesBy_40 fX9_41 (obX9 E m) (gvX9_12 E m) ?_
      refine g_iload_n (q := 2) dX9_comesBy_43 rfl rfl ?_
      obtain ⟨h9, hf⟩ := gd_ hf
      refine g_iald dX9_comesBy_44 ar_73 h9 ?_
      refine g_iconst (v := 1) dX9_comesBy_45 kI_1 ?_
      refine g_iadd dX9_comesBy_46 ?_
      refine g_iload_n (q := 1) dX9_comesBy_47 rfl rfl ?_
      refine g_icmp_ne (tgt := 55) dX9_comesBy_48 (by decide) (fun c10 => ?_) (fun c10 => ?_)
      · have hf := it_ hf c10
        refine g_lv [] rfl ?_
        exact wX9_comesBy_b55 E z  m hf
      · have hf := ie_ hf (not_not_intro c10)
        refine g_lv [] rfl ?_
        exact wX9_comesBy_b51 E z  m hf
theorem wX9_comesBy_b0 (E : pEv) (z : Int32) (a1 : Int32) (a2 : Int32) (m : pMem) (hf : sX9_comesBy a1 a2 m = some z) : gM E kX9_comesBy (z, m) 0 [(0, .ref (eA E 9)), (1, .int a1), (2, .int a2)] [] m := by
  unfold sX9_comesBy at hf
  refine g_aload_n (q := 0) dX9_comesBy_0 rfl rfl ?_
  refine g_get dX9_comesBy_1 fX9_26 (obX9 E m) (gvX9_7 E m) ?_
  refine g_iload_n (q := 2) dX9_comesBy_4 rfl rfl ?_
  obtain ⟨h1, hf⟩ := gd_ hf
  refine g_iald dX9_comesBy_5 ar_68 h1 ?_
  refine g_if_ne (tgt := 19) dX9_comesBy_6 (by decide) (fun c2 => ?_) (fun c2 => ?_)
  · have hf := it_ hf c2
    exact wX9_comesBy_b19 E z  a1 a2 m hf
  · have hf := ie_ hf (not_not_intro c2)
    refine g_aload_n (q := 0) dX9_comesBy_9 rfl rfl ?_
    refine g_get dX9_comesBy_10 fX9_41 (obX9 E m) (gvX9_12 E m) ?_
    refine g_iload_n (q := 2) dX9_comesBy_13 rfl rfl ?_
    obtain ⟨h3, hf⟩ := gd_ hf
    refine g_iald dX9_comesBy_14 ar_73 h3 ?_
    refine g_iload_n (q := 1) dX9_comesBy_15 rfl rfl ?_
    refine g_icmp_eq (tgt := 51) dX9_comesBy_16 (by decide) (fun c4 => ?_) (fun c4 => ?_)
    · have hf := it_ hf c4
      refine g_lv [] rfl ?_
      exact wX9_comesBy_b51 E z  m hf
    · have hf := ie_ hf c4
      exact wX9_comesBy_b19 E z  a1 a2 m hf
theorem tX9_comesBy (E : pEv) (m : pMem) (a1 : Int32) (a2 : Int32) {z : Int32} (hf : sX9_comesBy a1 a2 m = some z) : gCn E yX9_comesBy kX9_comesBy [.ref (eA E 9), .int a1, .int a2] m (z, m) := gCn_of (by decide +kernel) rfl rfl rfl (Nat.le_of_ble_eq_true rfl) rfl (wX9_comesBy_b0 E z a1 a2 m  hf)
theorem wX9_latest_b147 (E : pEv) (z : Int32) (t0 : Int32) (m : pMem) (hf : sX9_latest_b147 t0 m = some z) : gM E kX9_latest (z, m) 147 [] [.int t0] m := by
  unfold sX9_latest_b147 at hf
  exact g_ret dX9_latest_147 rfl rfl (by rw [Option.some.inj hf])
theorem wX9_latest_b114 (E : pEv) (z : Int32) (k6 : Int32 → Int32 → Int32 → Int32 → Int32 → Int32 → pMem → (Option Int32)) (ih6 : ∀ (l1 : Int32) (l2 : Int32) (l3 : Int32) (l4 : Int32) (l5 : Int32) (l6 : Int32)  (m : pMem), k6 l1 l2 l3 l4 l5 l6 m = some z → gM E kX9_latest (z, m) 6 [(0, .ref (eA E 9)), (1, .int l1), (2, .int l2), (3, .int l3), (4, .int l4), (5, .int l5), (6, .int l6)] [] m) (l1 : Int32) (l2 : Int32) (l3 : Int32) (l4 : Int32) (l6 : Int32) (t0 : Int32) (m : pMem) (hf : sX9_latest_b114 k6 l1 l2 l3 l4 l6 t0 m = some z) : gM E kX9_latest (z, m) 114 [(0, .ref (eA E 9)), (1, .int l1), (2, .int l2), (3, .int l3), (4, .int l4), (6, .int l6)] [.int t0] m := by
  unfold sX9_latest_b114 at hf
  refine g_istore dX9_latest_114 (Nat.le_of_ble_eq_true rfl) rfl ?_
  refine g_iinc (q := 6) (v := l6 + 1) dX9_latest_116 rfl (by rw [kI_1]) (Nat.le_of_ble_eq_true rfl) rfl ?_
  refine g_goto (tgt := 6) dX9_latest_119 (by decide) ?_
  refine g_lv [2, 3, 4, 5, 6, 1, 0] rfl ?_
  exact ih6 l1 l2 l3 l4 t0 (l6 + 1) m hf
theorem wX9_latest_b112 (E : pEv) (z : Int32) (k6 : Int32 → Int32 → Int32 → Int32 → Int32 → Int32 → pMem → (Option Int32)) (ih6 : ∀ (l1 : Int32) (l2 : Int32) (l3 : Int32) (l4 : Int32) (l5 : Int32) (l6 : Int32)  (m : pMem), k6 l1 l2 l3 l4 l5 l6 m = some z → gM E kX9_latest (z, m) 6 [(0, .ref (eA E 9)), (1, .int l1), (2, .int l2), (3, .int l3), (4, .int l4), (5, .int l5), (6, .int l6)] [] m) (l1 : Int32) (l2 : Int32) (l3 : Int32) (l4 : Int32) (l5 : Int32) (l6 : Int32) (m : pMem) (hf : sX9_latest_b112 k6 l1 l2 l3 l4 l5 l6 m = some z) : gM E kX9_latest (z, m) 112 [(0, .ref (eA E 9)), (1, .int l1), (2, .int l2), (3, .int l3), (4, .int l4), (5, .int l5), (6, .int l6)] [] m := by
  unfold sX9_latest_b112 at hf
  refine g_iload (q := 5) dX9_latest_112 rfl ?_
  refine g_lv [0, 1, 2, 3, 4, 6] rfl ?_
  exact wX9_latest_b114 E z k6 ih6 l1 l2 l3 l4 l6 l5 m hf
theorem wX9_latest_b107 (E : pEv) (z : Int32) (k6 : Int32 → Int32 → Int32 → Int32 → Int32 → Int32 → pMem → (Option Int32)) (ih6 : ∀ (l1 : Int32) (l2 : Int32) (l3 : Int32) (l4 : Int32) (l5 : Int32) (l6 : Int32)  (m : pMem), k6 l1 l2 l3 l4 l5 l6 m = some z → gM E kX9_latest (z, m) 6 [(0, .ref (eA E 9)), (1, .int l1), (2, .int l2), (3, .int l3), (4, .int l4), (5, .int l5), (6, .int l6)] [] m) (l1 : Int32) (l2 : Int32) (l3 : Int32) (l4 : Int32) (l6 : Int32) (m : pMem) (hf : sX9_latest_b107 k6 l1 l2 l3 l4 l6 m = some z) : gM E kX9_latest (z, m) 107 [(0, .ref (eA E 9)), (1, .int l1), (2, .int l2), (3, .int l3), (4, .int l4), (6, .int l6)] [] m := by
  unfold sX9_latest_b107 at hf
  refine g_iload (q := 5) dX9_latest_107 rfl ?_
  refine g_goto (tgt := 114) dX9_latest_109 (by decide) ?_
  exact wX9_latest_b114 E z k6 ih6 l1 l2 l3 l4 l6 l6 m hf
theorem wX9_latest_b77 (E : pEv) (z : Int32) (k6 : Int32 → Int32 → Int32 → Int32 → Int32 → Int32 → pMem → (Option Int32)) (ih6 : ∀ (l1 : Int32) (l2 : Int32) (l3 : Int32) (l4 : Int32) (l5 : Int32) (l6 : Int32)  (m : pMem), k6 l1 l2 l3 l4 l5 l6 m = some z → gM E kX9_latest (z, m) 6 [(0, .ref (eA E 9)), (1, .int l1), (2, .int l2), (3, .int l3), (4, .int l4), (5, .int l5), (6, .int l6)] [] m) (l1 : Int32) (l2 : Int32) (l3 : Int32) (l4 : Int32) (l5 : Int32) (l6 : Int32) (t0 : Int32) (m : pMem) (hf : sX9_latest_b77 k6 l1 l2 l3 l4 l5 l6 t0 m = some z) : gM E kX9_latest (z, m) 77 [(0, .ref (eA E 9)), (1, .int l1), (2, .int l2), (3, .int l3), (4, .int l4), (5, .int l5), (6, .int l6)] [.int t0] m := by
  unfold sX9_latest_b77 at hf
  refine g_istore dX9_latest_77 (Nat.le_of_ble_eq_true rfl) rfl ?_
  refine g_iload (q := 0) dX9_latest_79 rfl ?_
  refine g_if_eq (tgt := 112) dX9_latest_81 (by decide) (fun c15 => ?_) (fun c15 => ?_)
  · have hf := it_ hf c15
    refine g_lv [1, 2, 3, 4, 5, 6, 7] rfl ?_
    exact wX9_latest_b112 E z k6 ih6 l1 l2 l3 l4 l5 l6 m hf
  · have hf := ie_ hf c15
    refine g_iload (q := 6) dX9_latest_84 rfl ?_
    refine g_iconst (v := (-1)) dX9_latest_86 kI_m1 ?_
    refine g_icmp_eq (tgt := 107) dX9_latest_87 (by decide) (fun c16 => ?_) (fun c16 => ?_)
    · have hf := it_ hf c16
      refine g_lv [1, 2, 3, 4, 5, 7] rfl ?_
      exact wX9_latest_b107 E z k6 ih6 l1 l2 l3 l4 l6 m hf
    · have hf := ie_ hf c16
      refine g_aload_n (q := 1) dX9_latest_90 rfl rfl ?_
      refine g_get dX9_latest_91 fX9_80 (obX9 E m) (gvX9_35 E m) ?_
      refine g_iload (q := 7) dX9_latest_94 rfl ?_
      obtain ⟨h17, hf⟩ := gd_ hf
      refine g_iald dX9_latest_96 ar_86 h17 ?_
      refine g_aload_n (q := 1) dX9_latest_97 rfl rfl ?_
      refine g_get dX9_latest_98 fX9_80 (obX9 E m) (gvX9_35 E m) ?_
      refine g_iload (q := 6) dX9_latest_101 rfl ?_
      obtain ⟨h18, hf⟩ := gd_ hf
      refine g_iald dX9_latest_103 ar_86 h18 ?_
      refine g_icmp_lt (tgt := 112) dX9_latest_104 (by decide) (fun c19 => ?_) (fun c19 => ?_)
      · have hf := it_ hf c19
        refine g_lv [1, 2, 3, 4, 5, 6, 7] rfl ?_
        exact wX9_latest_b112 E z k6 ih6 l1 l2 l3 l4 l5 l6 m hf
      · have hf := ie_ hf c19
        refine g_lv [1, 2, 3, 4, 5, 7] rfl ?_
        exact wX9_latest_b107 E z k6 ih6 l1 l2 l3 l4 l6 m hf
theorem wX9_latest_b76 (E : pEv) (z : Int32) (k6 : Int32 → Int32 → Int32 → Int32 → Int32 → Int32 → pMem → (Option Int32)) (ih6 : ∀ (l1 : Int32) (l2 : Int32) (l3 : Int32) (l4 : Int32) (l5 : Int32) (l6 : Int32)  (m : pMem), k6 l1 l2 l3 l4 l5 l6 m = some z → gM E kX9_latest (z, m) 6 [(0, .ref (eA E 9)), (1, .int l1), (2, .int l2), (3, .int l3), (4, .int l4), (5, .int l5), (6, .int l6)] [] m) (l1 : Int32) (l2 : Int32) (l3 : Int32) (l4 : Int32) (l5 : Int32) (l6 : Int32) (m : pMem) (hf : sX9_latest_b76 k6 l1 l2 l3 l4 l5 l6 m = some z) : gM E kX9_latest (z, m) 76 [(0, .ref (eA E 9)), (1, .int l1), (2, .int l2), (3, .int l3), (4, .int l4), (5, .int l5), (6, .int l6)] [] m := by
  unfold sX9_latest_b76 at hf
  refine g_iconst (v := 0) dX9_latest_76 kI_0 ?_
  exact wX9_latest_b77 E z k6 ih6 l1 l2 l3 l4 l5 l6 0 m hf
theorem wX9_latest_b6 (E : pEv) (z : Int32) (k6 : Int32 → Int32 → Int32 → Int32 → Int32 → Int32 → pMem → (Option Int32)) (ih6 : ∀ (l1 : Int32) (l2 : Int32) (l3 : Int32) (l4 : Int32) (l5 : Int32) (l6 : Int32)  (m : pMem), k6 l1 l2 l3 l4 l5 l6 m = some z → gM E kX9_latest (z, m) 6 [(0, .ref (eA E 9)), (1, .int l1), (2, .int l2), (3, .int l3), (4, .int l4), (5, .int l5), (6, .int l6)] [] m) (l1 : Int32) (l2 : Int32) (l3 : Int32) (l4 : Int32) (l5 : Int32) (l6 : Int32) (m : pMem) (hf : sX9_latest_b6 k6 l1 l2 l3 l4 l5 l6 m = some z) : gM E kX9_latest (z, m) 6 [(0, .ref (eA E 9)), (1, .int l1), (2, .int l2), (3, .int l3), (4, .int l4), (5, .int l5), (6, .int l6)] [] m := by
  unfold sX9_latest_b6 at hf
  refine g_iload (q := 6) dX9_latest_6 rfl ?_
  refine g_aload_n (q := 0) dX9_latest_8 rfl rfl ?_
  refine g_get dX9_latest_9 fX9_292 (obX9 E m) (gvX9_32 E m) ?_
  refine g_icmp_ge (tgt := 122) dX9_latest_12 (by decide) (fun c2 => ?_) (fun c2 => ?_)
  · have hf := it_ hf c2
    refine g_iload (q := 5) dX9_latest_122 rfl ?_
    refine g_iconst (v := (-1)) dX9_latest_124 kI_m1 ?_
    refine g_icmp_ne (tgt := 132) dX9_latest_125 (by decide) (fun c3 => ?_) (fun c3 => ?_)
    · have hf := it_ hf c3
      refine g_aload_n (q := 0) dX9_latest_132 rfl rfl ?_
      refine g_get dX9_latest_133 fX9_87 (obX9 E m) (gvX9_37 E m) ?_
      refine g_iload (q := 5) dX9_latest_136 rfl ?_
      obtain ⟨h4, hf⟩ := gd_ hf
      refine g_zald dX9_latest_138 ar_88 h4 ?_
      refine g_if_eq (tgt := 146) dX9_latest_139 (by decide) (fun c5 => ?_) (fun c5 => ?_)
      · have hf := it_ hf c5
        refine g_iconst (v := 0) dX9_latest_146 kI_0 ?_
        refine g_lv [] rfl ?_
        exact wX9_latest_b147 E z  0 m hf
      · have hf := ie_ hf c5
        refine g_iconst (v := 1) dX9_latest_142 kI_1 ?_
        refine g_goto (tgt := 147) dX9_latest_143 (by decide) ?_
        refine g_lv [] rfl ?_
        exact wX9_latest_b147 E z  1 m hf
    · have hf := ie_ hf (not_not_intro c3)
      refine g_iconst (v := (-1)) dX9_latest_128 kI_m1 ?_
      refine g_goto (tgt := 147) dX9_latest_129 (by decide) ?_
      refine g_lv [] rfl ?_
      exact wX9_latest_b147 E z  (-1) m hf
  · have hf := ie_ hf c2
    refine g_aload_n (q := 0) dX9_latest_15 rfl rfl ?_
    refine g_get dX9_latest_16 fX9_298 (obX9 E m) (gvX9_38 E m) ?_
    refine g_iload (q := 6) dX9_latest_19 rfl ?_
    refine g_ishr dX9_latest_21 ?_
    refine g_iconst (v := 1) dX9_latest_22 kI_1 ?_
    refine g_iand dX9_latest_23 ?_
    refine g_if_ne (tgt := 76) dX9_latest_24 (by decide) (fun c6 => ?_) (fun c6 => ?_)
    · have hf := it_ hf c6
      exact wX9_latest_b76 E z k6 ih6 l1 l2 l3 l4 l5 l6 m hf
    · have hf := ie_ hf (not_not_intro c6)
      refine g_aload_n (q := 0) dX9_latest_27 rfl rfl ?_
      refine g_get dX9_latest_28 fX9_74 (obX9 E m) (gvX9_33 E m) ?_
      refine g_iload (q := 6) dX9_latest_31 rfl ?_
      obtain ⟨h7, hf⟩ := gd_ hf
      refine g_iald dX9_latest_33 ar_84 h7 ?_
      refine g_iload_n (q := 1) dX9_latest_34 rfl rfl ?_
      refine g_icmp_ne (tgt := 76) dX9_latest_35 (by decide) (fun c8 => ?_) (fun c8 => ?_)
      · have hf := it_ hf c8
        exact wX9_latest_b76 E z k6 ih6 l1 l2 l3 l4 l5 l6 m hf
      · have hf := ie_ hf (not_not_intro c8)
        refine g_aload_n (q := 0) dX9_latest_38 rfl rfl ?_
        refine g_get dX9_latest_39 fX9_77 (obX9 E m) (gvX9_34 E m) ?_
        refine g_iload (q := 6) dX9_latest_42 rfl ?_
        obtain ⟨h9, hf⟩ := gd_ hf
        refine g_iald dX9_latest_44 ar_85 h9 ?_
        refine g_iload_n (q := 2) dX9_latest_45 rfl rfl ?_
        refine g_icmp_ne (tgt := 76) dX9_latest_46 (by decide) (fun c10 => ?_) (fun c10 => ?_)
        · have hf := it_ hf c10
          exact wX9_latest_b76 E z k6 ih6 l1 l2 l3 l4 l5 l6 m hf
        · have hf := ie_ hf (not_not_intro c10)
          refine g_aload_n (q := 0) dX9_latest_49 rfl rfl ?_
          refine g_get dX9_latest_50 fX9_83 (obX9 E m) (gvX9_36 E m) ?_
          refine g_iload (q := 6) dX9_latest_53 rfl ?_
          obtain ⟨h11, hf⟩ := gd_ hf
          refine g_zald dX9_latest_55 ar_87 h11 ?_
          refine g_iload_n (q := 3) dX9_latest_56 rfl rfl ?_
          refine g_icmp_ne (tgt := 76) dX9_latest_57 (by decide) (fun c12 => ?_) (fun c12 => ?_)
          · have hf := it_ hf c12
            exact wX9_latest_b76 E z k6 ih6 l1 l2 l3 l4 l5 l6 m hf
          · have hf := ie_ hf (not_not_intro c12)
            refine g_aload_n (q := 0) dX9_latest_60 rfl rfl ?_
            refine g_get dX9_latest_61 fX9_80 (obX9 E m) (gvX9_35 E m) ?_
            refine g_iload (q := 6) dX9_latest_64 rfl ?_
            obtain ⟨h13, hf⟩ := gd_ hf
            refine g_iald dX9_latest_66 ar_86 h13 ?_
            refine g_iload (q := 4) dX9_latest_67 rfl ?_
            refine g_icmp_gt (tgt := 76) dX9_latest_69 (by decide) (fun c14 => ?_) (fun c14 => ?_)
            · have hf := it_ hf c14
              exact wX9_latest_b76 E z k6 ih6 l1 l2 l3 l4 l5 l6 m hf
            · have hf := ie_ hf c14
              refine g_iconst (v := 1) dX9_latest_72 kI_1 ?_
              refine g_goto (tgt := 77) dX9_latest_73 (by decide) ?_
              exact wX9_latest_b77 E z k6 ih6 l1 l2 l3 l4 l5 l6 1 m hf
theorem wX9_latest_l6 (E : pEv) (z : Int32) : ∀ (n : Nat) (l1 : Int32) (l2 : Int32) (l3 : Int32) (l4 : Int32) (l5 : Int32) (l6 : Int32) (m : pMem), sX9_latest_l6 n l1 l2 l3 l4 l5 l6 m = some z → gM E kX9_latest (z, m) 6 [(0, .ref (eA E 9)), (1, .int l1), (2, .int l2), (3, .int l3), (4, .int l4), (5, .int l5), (6, .int l6)] [] m := by
  intro n
  induction n with
  | zero => intro l1 l2 l3 l4 l5 l6 m  hf; cases (show (none : Option _) = some z from hf)
  | succ n ih => intro l1 l2 l3 l4 l5 l6 m  hf; exact wX9_latest_b6 E z  _  ih l1 l2 l3 l4 l5 l6 m  hf
theorem wX9_latest_b0 (E : pEv) (z : Int32) (a1 : Int32) (a2 : Int32) (a3 : Int32) (a4 : Int32) (m : pMem) (hf : sX9_latest a1 a2 a3 a4 m = some z) : gM E kX9_latest (z, m) 0 [(0, .ref (eA E 9)), (1, .int a1), (2, .int a2), (3, .int a3), (4, .int a4)] [] m := by
  unfold sX9_latest at hf
  refine g_iconst (v := (-1)) dX9_latest_0 kI_m1 ?_
  refine nmI hf (fun x1 hf => ?_)
  refine g_istore dX9_latest_1 (Nat.le_of_ble_eq_true rfl) rfl ?_
  refine g_iconst (v := 0) dX9_latest_3 kI_0 ?_
  refine g_istore dX9_latest_4 (Nat.le_of_ble_eq_true rfl) rfl ?_
  refine g_lv [2, 3, 4, 5, 6, 1, 0] rfl ?_
  exact wX9_latest_l6 E z  5000 a1 a2 a3 a4 x1 0 m hf
theorem tX9_latest (E : pEv) (m : pMem) (a1 : Int32) (a2 : Int32) (a3 : Int32) (a4 : Int32) {z : Int32} (hf : sX9_latest a1 a2 a3 a4 m = some z) : gCn E yX9_latest kX9_latest [.ref (eA E 9), .int a1, .int a2, .int a3, .int a4] m (z, m) := gCn_of (by decide +kernel) rfl rfl rfl (Nat.le_of_ble_eq_true rfl) rfl (wX9_latest_b0 E z a1 a2 a3 a4 m  hf)
theorem wX9_firstYes_b122 (E : pEv) (z : Int32) (k6 : Int32 → Int32 → Int32 → Int32 → Int32 → pMem → (Option Int32)) (ih6 : ∀ (l1 : Int32) (l2 : Int32) (l3 : Int32) (l4 : Int32) (l5 : Int32)  (m : pMem), k6 l1 l2 l3 l4 l5 m = some z → gM E kX9_firstYes (z, m) 6 [(0, .ref (eA E 9)), (1, .int l1), (2, .int l2), (3, .int l3), (4, .int l4), (5, .int l5)] [] m) (l1 : Int32) (l2 : Int32) (l3 : Int32) (l5 : Int32) (t0 : Int32) (m : pMem) (hf : sX9_firstYes_b122 k6 l1 l2 l3 l5 t0 m = some z) : gM E kX9_firstYes (z, m) 122 [(0, .ref (eA E 9)), (1, .int l1), (2, .int l2), (3, .int l3), (5, .int l5)] [.int t0] m := by
  unfold sX9_firstYes_b122 at hf
  refine g_istore dX9_firstYes_122 (Nat.le_of_ble_eq_true rfl) rfl ?_
  refine g_iinc (q := 5) (v := l5 + 1) dX9_firstYes_124 rfl (by rw [kI_1]) (Nat.le_of_ble_eq_true rfl) rfl ?_
  refine g_goto (tgt := 6) dX9_firstYes_127 (by decide) ?_
  refine g_lv [2, 3, 4, 5, 1, 0] rfl ?_
  exact ih6 l1 l2 l3 t0 (l5 + 1) m hf
theorem wX9_firstYes_b120 (E : pEv) (z : Int32) (k6 : Int32 → Int32 → Int32 → Int32 → Int32 → pMem → (Option Int32)) (ih6 : ∀ (l1 : Int32) (l2 : Int32) (l3 : Int32) (l4 : Int32) (l5 : Int32)  (m : pMem), k6 l1 l2 l3 l4 l5 m = some z → gM E kX9_firstYes (z, m) 6 [(0, .ref (eA E 9)), (1, .int l1), (2, .int l2), (3, .int l3), (4, .int l4), (5, .int l5)] [] m) (l1 : Int32) (l2 : Int32) (l3 : Int32) (l4 : Int32) (l5 : Int32) (m : pMem) (hf : sX9_firstYes_b120 k6 l1 l2 l3 l4 l5 m = some z) : gM E kX9_firstYes (z, m) 120 [(0, .ref (eA E 9)), (1, .int l1), (2, .int l2), (3, .int l3), (4, .int l4), (5, .int l5)] [] m := by
  unfold sX9_firstYes_b120 at hf
  refine g_iload (q := 4) dX9_firstYes_120 rfl ?_
  refine g_lv [0, 1, 2, 3, 5] rfl ?_
  exact wX9_firstYes_b122 E z k6 ih6 l1 l2 l3 l5 l4 m hf
theorem wX9_firstYes_b110 (E : pEv) (z : Int32) (k6 : Int32 → Int32 → Int32 → Int32 → Int32 → pMem → (Option Int32)) (ih6 : ∀ (l1 : Int32) (l2 : Int32) (l3 : Int32) (l4 : Int32) (l5 : Int32)  (m : pMem), k6 l1 l2 l3 l4 l5 m = some z → gM E kX9_firstYes (z, m) 6 [(0, .ref (eA E 9)), (1, .int l1), (2, .int l2), (3, .int l3), (4, .int l4), (5, .int l5)] [] m) (l1 : Int32) (l2 : Int32) (l3 : Int32) (l5 : Int32) (m : pMem) (hf : sX9_firstYes_b110 k6 l1 l2 l3 l5 m = some z) : gM E kX9_firstYes (z, m) 110 [(0, .ref (eA E 9)), (1, .int l1), (2, .int l2), (3, .int l3), (5, .int l5)] [] m := by
  unfold sX9_firstYes_b110 at hf
  refine g_aload_n (q := 0) dX9_firstYes_110 rfl rfl ?_
  refine g_get dX9_firstYes_111 fX9_80 (obX9 E m) (gvX9_35 E m) ?_
  refine g_iload (q := 4) dX9_firstYes_114 rfl ?_
  obtain ⟨h18, hf⟩ := gd_ hf
  refine g_iald dX9_firstYes_116 ar_86 h18 ?_
  refine g_goto (tgt := 122) dX9_firstYes_117 (by decide) ?_
  exact wX9_firstYes_b122 E z k6 ih6 l1 l2 l3 l5 (m.1 86 l5.toNatClampNeg) m hf
theorem wX9_firstYes_b85 (E : pEv) (z : Int32) (k6 : Int32 → Int32 → Int32 → Int32 → Int32 → pMem → (Option Int32)) (ih6 : ∀ (l1 : Int32) (l2 : Int32) (l3 : Int32) (l4 : Int32) (l5 : Int32)  (m : pMem), k6 l1 l2 l3 l4 l5 m = some z → gM E kX9_firstYes (z, m) 6 [(0, .ref (eA E 9)), (1, .int l1), (2, .int l2), (3, .int l3), (4, .int l4), (5, .int l5)] [] m) (l1 : Int32) (l2 : Int32) (l3 : Int32) (l4 : Int32) (l5 : Int32) (t0 : Int32) (m : pMem) (hf : sX9_firstYes_b85 k6 l1 l2 l3 l4 l5 t0 m = some z) : gM E kX9_firstYes (z, m) 85 [(0, .ref (eA E 9)), (1, .int l1), (2, .int l2), (3, .int l3), (4, .int l4), (5, .int l5)] [.int t0] m := by
  unfold sX9_firstYes_b85 at hf
  refine g_istore dX9_firstYes_85 (Nat.le_of_ble_eq_true rfl) rfl ?_
  refine g_iload (q := 0) dX9_firstYes_87 rfl ?_
  refine g_if_eq (tgt := 120) dX9_firstYes_89 (by decide) (fun c14 => ?_) (fun c14 => ?_)
  · have hf := it_ hf c14
    refine g_lv [1, 2, 3, 4, 5, 6] rfl ?_
    exact wX9_firstYes_b120 E z k6 ih6 l1 l2 l3 l4 l5 m hf
  · have hf := ie_ hf c14
    refine g_iload (q := 5) dX9_firstYes_92 rfl ?_
    refine g_iconst (v := (-1)) dX9_firstYes_94 kI_m1 ?_
    refine g_icmp_eq (tgt := 110) dX9_firstYes_95 (by decide) (fun c15 => ?_) (fun c15 => ?_)
    · have hf := it_ hf c15
      refine g_lv [1, 2, 3, 4, 6] rfl ?_
      exact wX9_firstYes_b110 E z k6 ih6 l1 l2 l3 l5 m hf
    · have hf := ie_ hf c15
      refine g_aload_n (q := 1) dX9_firstYes_98 rfl rfl ?_
      refine g_get dX9_firstYes_99 fX9_80 (obX9 E m) (gvX9_35 E m) ?_
      refine g_iload (q := 6) dX9_firstYes_102 rfl ?_
      obtain ⟨h16, hf⟩ := gd_ hf
      refine g_iald dX9_firstYes_104 ar_86 h16 ?_
      refine g_iload (q := 5) dX9_firstYes_105 rfl ?_
      refine g_icmp_ge (tgt := 120) dX9_firstYes_107 (by decide) (fun c17 => ?_) (fun c17 => ?_)
      · have hf := it_ hf c17
        refine g_lv [1, 2, 3, 4, 5, 6] rfl ?_
        exact wX9_firstYes_b120 E z k6 ih6 l1 l2 l3 l4 l5 m hf
      · have hf := ie_ hf c17
        refine g_lv [1, 2, 3, 4, 6] rfl ?_
        exact wX9_firstYes_b110 E z k6 ih6 l1 l2 l3 l5 m hf
theorem wX9_firstYes_b84 (E : pEv) (z : Int32) (k6 : Int32 → Int32 → Int32 → Int32 → Int32 → pMem → (Option Int32)) (ih6 : ∀ (l1 : Int32) (l2 : Int32) (l3 : Int32) (l4 : Int32) (l5 : Int32)  (m : pMem), k6 l1 l2 l3 l4 l5 m = some z → gM E kX9_firstYes (z, m) 6 [(0, .ref (eA E 9)), (1, .int l1), (2, .int l2), (3, .int l3), (4, .int l4), (5, .int l5)] [] m) (l1 : Int32) (l2 : Int32) (l3 : Int32) (l4 : Int32) (l5 : Int32) (m : pMem) (hf : sX9_firstYes_b84 k6 l1 l2 l3 l4 l5 m = some z) : gM E kX9_firstYes (z, m) 84 [(0, .ref (eA E 9)), (1, .int l1), (2, .int l2), (3, .int l3), (4, .int l4), (5, .int l5)] [] m := by
  unfold sX9_firstYes_b84 at hf
  refine g_iconst (v := 0) dX9_firstYes_84 kI_0 ?_
  exact wX9_firstYes_b85 E z k6 ih6 l1 l2 l3 l4 l5 0 m hf
theorem wX9_firstYes_b6 (E : pEv) (z : Int32) (k6 : Int32 → Int32 → Int32 → Int32 → Int32 → pMem → (Option Int32)) (ih6 : ∀ (l1 : Int32) (l2 : Int32) (l3 : Int32) (l4 : Int32) (l5 : Int32)  (m : pMem), k6 l1 l2 l3 l4 l5 m = some z → gM E kX9_firstYes (z, m) 6 [(0, .ref (eA E 9)), (1, .int l1), (2, .int l2), (3, .int l3), (4, .int l4), (5, .int l5)] [] m) (l1 : Int32) (l2 : Int32) (l3 : Int32) (l4 : Int32) (l5 : Int32) (m : pMem) (hf : sX9_firstYes_b6 k6 l1 l2 l3 l4 l5 m = some z) : gM E kX9_firstYes (z, m) 6 [(0, .ref (eA E 9)), (1, .int l1), (2, .int l2), (3, .int l3), (4, .int l4), (5, .int l5)] [] m := by
  unfold sX9_firstYes_b6 at hf
  refine g_iload (q := 5) dX9_firstYes_6 rfl ?_
  refine g_aload_n (q := 0) dX9_firstYes_8 rfl rfl ?_
  refine g_get dX9_firstYes_9 fX9_292 (obX9 E m) (gvX9_32 E m) ?_
  refine g_icmp_ge (tgt := 130) dX9_firstYes_12 (by decide) (fun c2 => ?_) (fun c2 => ?_)
  · have hf := it_ hf c2
    refine g_iload (q := 4) dX9_firstYes_130 rfl ?_
    exact g_ret dX9_firstYes_132 rfl rfl (by rw [Option.some.inj hf])
  · have hf := ie_ hf c2
    refine g_aload_n (q := 0) dX9_firstYes_15 rfl rfl ?_
    refine g_get dX9_firstYes_16 fX9_298 (obX9 E m) (gvX9_38 E m) ?_
    refine g_iload (q := 5) dX9_firstYes_19 rfl ?_
    refine g_ishr dX9_firstYes_21 ?_
    refine g_iconst (v := 1) dX9_firstYes_22 kI_1 ?_
    refine g_iand dX9_firstYes_23 ?_
    refine g_if_ne (tgt := 84) dX9_firstYes_24 (by decide) (fun c3 => ?_) (fun c3 => ?_)
    · have hf := it_ hf c3
      exact wX9_firstYes_b84 E z k6 ih6 l1 l2 l3 l4 l5 m hf
    · have hf := ie_ hf (not_not_intro c3)
      refine g_aload_n (q := 0) dX9_firstYes_27 rfl rfl ?_
      refine g_get dX9_firstYes_28 fX9_74 (obX9 E m) (gvX9_33 E m) ?_
      refine g_iload (q := 5) dX9_firstYes_31 rfl ?_
      obtain ⟨h4, hf⟩ := gd_ hf
      refine g_iald dX9_firstYes_33 ar_84 h4 ?_
      refine g_iload_n (q := 1) dX9_firstYes_34 rfl rfl ?_
      refine g_icmp_ne (tgt := 84) dX9_firstYes_35 (by decide) (fun c5 => ?_) (fun c5 => ?_)
      · have hf := it_ hf c5
        exact wX9_firstYes_b84 E z k6 ih6 l1 l2 l3 l4 l5 m hf
      · have hf := ie_ hf (not_not_intro c5)
        refine g_aload_n (q := 0) dX9_firstYes_38 rfl rfl ?_
        refine g_get dX9_firstYes_39 fX9_77 (obX9 E m) (gvX9_34 E m) ?_
        refine g_iload (q := 5) dX9_firstYes_42 rfl ?_
        obtain ⟨h6, hf⟩ := gd_ hf
        refine g_iald dX9_firstYes_44 ar_85 h6 ?_
        refine g_iload_n (q := 2) dX9_firstYes_45 rfl rfl ?_
        refine g_icmp_ne (tgt := 84) dX9_firstYes_46 (by decide) (fun c7 => ?_) (fun c7 => ?_)
        · have hf := it_ hf c7
          exact wX9_firstYes_b84 E z k6 ih6 l1 l2 l3 l4 l5 m hf
        · have hf := ie_ hf (not_not_intro c7)
          refine g_aload_n (q := 0) dX9_firstYes_49 rfl rfl ?_
          refine g_get dX9_firstYes_50 fX9_83 (obX9 E m) (gvX9_36 E m) ?_
          refine g_iload (q := 5) dX9_firstYes_53 rfl ?_
          obtain ⟨h8, hf⟩ := gd_ hf
          refine g_zald dX9_firstYes_55 ar_87 h8 ?_
          refine g_if_ne (tgt := 84) dX9_firstYes_56 (by decide) (fun c9 => ?_) (fun c9 => ?_)
          · have hf := it_ hf c9
            exact wX9_firstYes_b84 E z k6 ih6 l1 l2 l3 l4 l5 m hf
          · have hf := ie_ hf (not_not_intro c9)
            refine g_aload_n (q := 0) dX9_firstYes_59 rfl rfl ?_
            refine g_get dX9_firstYes_60 fX9_87 (obX9 E m) (gvX9_37 E m) ?_
            refine g_iload (q := 5) dX9_firstYes_63 rfl ?_
            obtain ⟨h10, hf⟩ := gd_ hf
            refine g_zald dX9_firstYes_65 ar_88 h10 ?_
            refine g_if_eq (tgt := 84) dX9_firstYes_66 (by decide) (fun c11 => ?_) (fun c11 => ?_)
            · have hf := it_ hf c11
              exact wX9_firstYes_b84 E z k6 ih6 l1 l2 l3 l4 l5 m hf
            · have hf := ie_ hf c11
              refine g_aload_n (q := 0) dX9_firstYes_69 rfl rfl ?_
              refine g_get dX9_firstYes_70 fX9_80 (obX9 E m) (gvX9_35 E m) ?_
              refine g_iload (q := 5) dX9_firstYes_73 rfl ?_
              obtain ⟨h12, hf⟩ := gd_ hf
              refine g_iald dX9_firstYes_75 ar_86 h12 ?_
              refine g_iload_n (q := 3) dX9_firstYes_76 rfl rfl ?_
              refine g_icmp_gt (tgt := 84) dX9_firstYes_77 (by decide) (fun c13 => ?_) (fun c13 => ?_)
              · have hf := it_ hf c13
                exact wX9_firstYes_b84 E z k6 ih6 l1 l2 l3 l4 l5 m hf
              · have hf := ie_ hf c13
                refine g_iconst (v := 1) dX9_firstYes_80 kI_1 ?_
                refine g_goto (tgt := 85) dX9_firstYes_81 (by decide) ?_
                exact wX9_firstYes_b85 E z k6 ih6 l1 l2 l3 l4 l5 1 m hf
theorem wX9_firstYes_l6 (E : pEv) (z : Int32) : ∀ (n : Nat) (l1 : Int32) (l2 : Int32) (l3 : Int32) (l4 : Int32) (l5 : Int32) (m : pMem), sX9_firstYes_l6 n l1 l2 l3 l4 l5 m = some z → gM E kX9_firstYes (z, m) 6 [(0, .ref (eA E 9)), (1, .int l1), (2, .int l2), (3, .int l3), (4, .int l4), (5, .int l5)] [] m := by
  intro n
  induction n with
  | zero => intro l1 l2 l3 l4 l5 m  hf; cases (show (none : Option _) = some z from hf)
  | succ n ih => intro l1 l2 l3 l4 l5 m  hf; exact wX9_firstYes_b6 E z  _  ih l1 l2 l3 l4 l5 m  hf
theorem wX9_firstYes_b0 (E : pEv) (z : Int32) (a1 : Int32) (a2 : Int32) (a3 : Int32) (m : pMem) (hf : sX9_firstYes a1 a2 a3 m = some z) : gM E kX9_firstYes (z, m) 0 [(0, .ref (eA E 9)), (1, .int a1), (2, .int a2), (3, .int a3)] [] m := by
  unfold sX9_firstYes at hf
  refine g_iconst (v := (-1)) dX9_firstYes_0 kI_m1 ?_
  refine nmI hf (fun x1 hf => ?_)
  refine g_istore dX9_firstYes_1 (Nat.le_of_ble_eq_true rfl) rfl ?_
  refine g_iconst (v := 0) dX9_firstYes_3 kI_0 ?_
  refine g_istore dX9_firstYes_4 (Nat.le_of_ble_eq_true rfl) rfl ?_
  refine g_lv [2, 3, 4, 5, 1, 0] rfl ?_
  exact wX9_firstYes_l6 E z  5000 a1 a2 a3 x1 0 m hf
theorem tX9_firstYes (E : pEv) (m : pMem) (a1 : Int32) (a2 : Int32) (a3 : Int32) {z : Int32} (hf : sX9_firstYes a1 a2 a3 m = some z) : gCn E yX9_firstYes kX9_firstYes [.ref (eA E 9), .int a1, .int a2, .int a3] m (z, m) := gCn_of (by decide +kernel) rfl rfl rfl (Nat.le_of_ble_eq_true rfl) rfl (wX9_firstYes_b0 E z a1 a2 a3 m  hf)
theorem wX9_doWordsLet_b96 (E : pEv) (z : Int32) (t0 : Int32) (m : pMem) (hf : sX9_doWordsLet_b96 t0 m = some z) : gM E kX9_doWordsLet (z, m) 96 [] [.int t0] m := by
  unfold sX9_doWordsLet_b96 at hf
  exact g_retz dX9_doWordsLet_96 rfl (by rw [Option.some.inj hf])
theorem wX9_doWordsLet_b91 (E : pEv) (z : Int32) (m : pMem) (hf : sX9_doWordsLet_b91  m = some z) : gM E kX9_doWordsLet (z, m) 91 [] [] m := by
  unfold sX9_doWordsLet_b91 at hf
  refine g_iconst (v := 1) dX9_doWordsLet_91 kI_1 ?_
  refine g_goto (tgt := 96) dX9_doWordsLet_92 (by decide) ?_
  exact wX9_doWordsLet_b96 E z  1 m hf
theorem wX9_doWordsLet_b29 (E : pEv) (z : Int32) (t0 : Int32) (m : pMem) (hf : sX9_doWordsLet_b29 t0 m = some z) : gM E kX9_doWordsLet (z, m) 29 [] [.int t0] m := by
  unfold sX9_doWordsLet_b29 at hf
  exact g_retz dX9_doWordsLet_29 rfl (by rw [Option.some.inj hf])
theorem wX9_doWordsLet_b95 (E : pEv) (z : Int32) (m : pMem) (hf : sX9_doWordsLet_b95  m = some z) : gM E kX9_doWordsLet (z, m) 95 [] [] m := by
  unfold sX9_doWordsLet_b95 at hf
  refine g_iconst (v := 0) dX9_doWordsLet_95 kI_0 ?_
  exact wX9_doWordsLet_b96 E z  0 m hf
theorem wX9_doWordsLet_b0 (E : pEv) (z : Int32) (a1 : Int32) (a2 : Int32) (a3 : Int32) (m : pMem) (hf : sX9_doWordsLet a1 a2 a3 m = some z) : gM E kX9_doWordsLet (z, m) 0 [(0, .ref (eA E 9)), (1, .int a1), (2, .int a2), (3, .int a3)] [] m := by
  unfold sX9_doWordsLet at hf
  refine g_aload_n (q := 0) dX9_doWordsLet_0 rfl rfl ?_
  refine g_iload_n (q := 1) dX9_doWordsLet_1 rfl rfl ?_
  refine g_iload_n (q := 2) dX9_doWordsLet_2 rfl rfl ?_
  refine g_iconst (v := 0) dX9_doWordsLet_3 kI_0 ?_
  refine g_iload_n (q := 3) dX9_doWordsLet_4 rfl rfl ?_
  obtain ⟨r1, q2, hf⟩ := cbR_ hf
  refine g_cV (As := [.int a1, .int a2, .int 0, .int a3]) dX9_doWordsLet_5 (tX9_latest E m a1 a2 0 a3 q2) gyX9_latest giX9_latest gsX9_latest mX9_301 (⟨rfl, rfl, Nat.le_of_ble_eq_true rfl, Nat.le_of_ble_eq_true rfl, Nat.le_of_ble_eq_true rfl, Nat.le_of_ble_eq_true rfl⟩) rfl (obX9 E m) rfl rfl rfl (Nat.le_of_ble_eq_true rfl) ?_
  refine g_istore dX9_doWordsLet_8 (Nat.le_of_ble_eq_true rfl) rfl ?_
  refine g_aload_n (q := 1) dX9_doWordsLet_10 rfl rfl ?_
  refine g_get dX9_doWordsLet_11 fX9_56 (obX9 E m) (gvX9_25 E m) ?_
  refine g_iconst (v := 0) dX9_doWordsLet_14 kI_0 ?_
  refine g_iald dX9_doWordsLet_15 ar_78 (by decide) ?_
  refine g_if_ne (tgt := 30) dX9_doWordsLet_16 (by decide) (fun c3 => ?_) (fun c3 => ?_)
  · have hf := it_ hf c3
    refine g_aload_n (q := 1) dX9_doWordsLet_30 rfl rfl ?_
    refine g_iload_n (q := 2) dX9_doWordsLet_31 rfl rfl ?_
    refine g_iload_n (q := 3) dX9_doWordsLet_32 rfl rfl ?_
    refine g_iconst (v := 1) dX9_doWordsLet_33 kI_1 ?_
    refine g_iload_n (q := 4) dX9_doWordsLet_34 rfl rfl ?_
    obtain ⟨r4, q5, hf⟩ := cbR_ hf
    refine g_cV (As := [.int a1, .int a2, .int 1, .int a3]) dX9_doWordsLet_35 (tX9_latest E m a1 a2 1 a3 q5) gyX9_latest giX9_latest gsX9_latest mX9_301 (⟨rfl, rfl, Nat.le_of_ble_eq_true rfl, Nat.le_of_ble_eq_true rfl, Nat.le_of_ble_eq_true rfl, Nat.le_of_ble_eq_true rfl⟩) rfl (obX9 E m) rfl rfl rfl (Nat.le_of_ble_eq_true rfl) ?_
    refine g_istore dX9_doWordsLet_38 (Nat.le_of_ble_eq_true rfl) rfl ?_
    refine g_iload (q := 1) dX9_doWordsLet_40 rfl ?_
    refine g_iconst (v := 1) dX9_doWordsLet_42 kI_1 ?_
    refine g_icmp_ne (tgt := 95) dX9_doWordsLet_43 (by decide) (fun c6 => ?_) (fun c6 => ?_)
    · have hf := it_ hf c6
      refine g_lv [] rfl ?_
      exact wX9_doWordsLet_b95 E z  m hf
    · have hf := ie_ hf (not_not_intro c6)
      refine g_aload_n (q := 2) dX9_doWordsLet_46 rfl rfl ?_
      refine g_iload_n (q := 3) dX9_doWordsLet_47 rfl rfl ?_
      refine g_iload_n (q := 4) dX9_doWordsLet_48 rfl rfl ?_
      refine g_iload_n (q := 5) dX9_doWordsLet_49 rfl rfl ?_
      obtain ⟨r7, q8, hf⟩ := cbR_ hf
      refine g_cV (As := [.int a1, .int a2, .int a3]) dX9_doWordsLet_50 (tX9_firstYes E m a1 a2 a3 q8) gyX9_firstYes giX9_firstYes gsX9_firstYes mX9_305 (⟨rfl, rfl, Nat.le_of_ble_eq_true rfl, Nat.le_of_ble_eq_true rfl, Nat.le_of_ble_eq_true rfl, Nat.le_of_ble_eq_true rfl⟩) rfl (obX9 E m) rfl rfl rfl (Nat.le_of_ble_eq_true rfl) ?_
      refine g_aload_n (q := 2) dX9_doWordsLet_53 rfl rfl ?_
      refine g_get dX9_doWordsLet_54 fX9_23 (obX9 E m) (gvX9_5 E m) ?_
      refine g_iload_n (q := 4) dX9_doWordsLet_57 rfl rfl ?_
      obtain ⟨h9, hf⟩ := gd_ hf
      refine g_iald dX9_doWordsLet_58 ar_67 h9 ?_
      refine g_isub dX9_doWordsLet_59 ?_
      refine g_aload_n (q := 2) dX9_doWordsLet_60 rfl rfl ?_
      refine g_get dX9_doWordsLet_61 fX9_56 (obX9 E m) (gvX9_25 E m) ?_
      refine g_iconst (v := 2) dX9_doWordsLet_64 kI_2 ?_
      refine g_iald dX9_doWordsLet_65 ar_78 (by decide) ?_
      refine g_icmp_gt (tgt := 95) dX9_doWordsLet_66 (by decide) (fun c10 => ?_) (fun c10 => ?_)
      · have hf := it_ hf c10
        refine g_lv [] rfl ?_
        exact wX9_doWordsLet_b95 E z  m hf
      · have hf := ie_ hf c10
        refine g_iload (q := 0) dX9_doWordsLet_69 rfl ?_
        refine g_iconst (v := 1) dX9_doWordsLet_71 kI_1 ?_
        refine g_icmp_eq (tgt := 91) dX9_doWordsLet_72 (by decide) (fun c11 => ?_) (fun c11 => ?_)
        · have hf := it_ hf c11
          refine g_lv [] rfl ?_
          exact wX9_doWordsLet_b91 E z  m hf
        · have hf := ie_ hf c11
          refine g_iload (q := 0) dX9_doWordsLet_75 rfl ?_
          refine g_iconst (v := (-1)) dX9_doWordsLet_77 kI_m1 ?_
          refine g_icmp_ne (tgt := 95) dX9_doWordsLet_78 (by decide) (fun c12 => ?_) (fun c12 => ?_)
          · have hf := it_ hf c12
            refine g_lv [] rfl ?_
            exact wX9_doWordsLet_b95 E z  m hf
          · have hf := ie_ hf (not_not_intro c12)
            refine g_aload_n (q := 2) dX9_doWordsLet_81 rfl rfl ?_
            refine g_get dX9_doWordsLet_82 fX9_56 (obX9 E m) (gvX9_25 E m) ?_
            refine g_iconst (v := 1) dX9_doWordsLet_85 kI_1 ?_
            refine g_iald dX9_doWordsLet_86 ar_78 (by decide) ?_
            refine g_iconst (v := 1) dX9_doWordsLet_87 kI_1 ?_
            refine g_icmp_ne (tgt := 95) dX9_doWordsLet_88 (by decide) (fun c13 => ?_) (fun c13 => ?_)
            · have hf := it_ hf c13
              refine g_lv [] rfl ?_
              exact wX9_doWordsLet_b95 E z  m hf
            · have hf := ie_ hf (not_not_intro c13)
              refine g_lv [] rfl ?_
              exact wX9_doWordsLet_b91 E z  m hf
  · have hf := ie_ hf (not_not_intro c3)
    refine g_iload (q := 0) dX9_doWordsLet_19 rfl ?_
    refine g_if_eq (tgt := 28) dX9_doWordsLet_21 (by decide) (fun c14 => ?_) (fun c14 => ?_)
    · have hf := it_ hf c14
      refine g_iconst (v := 0) dX9_doWordsLet_28 kI_0 ?_
      refine g_lv [] rfl ?_
      exact wX9_doWordsLet_b29 E z  0 m hf
    · have hf := ie_ hf c14
      refine g_iconst (v := 1) dX9_doWordsLet_24 kI_1 ?_
      refine g_goto (tgt := 29) dX9_doWordsLet_25 (by decide) ?_
      refine g_lv [] rfl ?_
      exact wX9_doWordsLet_b29 E z  1 m hf
theorem tX9_doWordsLet (E : pEv) (m : pMem) (a1 : Int32) (a2 : Int32) (a3 : Int32) {z : Int32} (hf : sX9_doWordsLet a1 a2 a3 m = some z) : gCn E yX9_doWordsLet kX9_doWordsLet [.ref (eA E 9), .int a1, .int a2, .int a3] m (z, m) := gCn_of (by decide +kernel) rfl rfl rfl (Nat.le_of_ble_eq_true rfl) rfl (wX9_doWordsLet_b0 E z a1 a2 a3 m  hf)
theorem wX9_isBound_b96 (E : pEv) (z : Int32) (k26 : Int32 → Int32 → Int32 → Int32 → Int32 → pMem → (Option Int32)) (ih26 : ∀ (l1 : Int32) (l2 : Int32) (l3 : Int32) (l4 : Int32) (l6 : Int32)  (m : pMem), k26 l1 l2 l3 l4 l6 m = some z → gM E kX9_isBound (z, m) 26 [(0, .ref (eA E 9)), (1, .int l1), (2, .int l2), (3, .int l3), (4, .int l4), (6, .int l6)] [] m) (l1 : Int32) (l2 : Int32) (l3 : Int32) (l4 : Int32) (l6 : Int32) (m : pMem) (hf : sX9_isBound_b96 k26 l1 l2 l3 l4 l6 m = some z) : gM E kX9_isBound (z, m) 96 [(0, .ref (eA E 9)), (1, .int l1), (2, .int l2), (3, .int l3), (4, .int l4), (6, .int l6)] [] m := by
  unfold sX9_isBound_b96 at hf
  refine g_iinc (q := 5) (v := l6 + 1) dX9_isBound_96 rfl (by rw [kI_1]) (Nat.le_of_ble_eq_true rfl) rfl ?_
  refine g_goto (tgt := 26) dX9_isBound_99 (by decide) ?_
  refine g_lv [1, 2, 3, 4, 5, 0] rfl ?_
  exact ih26 l1 l2 l3 l4 (l6 + 1) m hf
theorem wX9_isBound_b94 (E : pEv) (z : Int32) (m : pMem) (hf : sX9_isBound_b94  m = some z) : gM E kX9_isBound (z, m) 94 [] [] m := by
  unfold sX9_isBound_b94 at hf
  refine g_iconst (v := 1) dX9_isBound_94 kI_1 ?_
  exact g_ret dX9_isBound_95 rfl kz_1 (by rw [Option.some.inj hf])
theorem wX9_isBound_b73 (E : pEv) (z : Int32) (k26 : Int32 → Int32 → Int32 → Int32 → Int32 → pMem → (Option Int32)) (ih26 : ∀ (l1 : Int32) (l2 : Int32) (l3 : Int32) (l4 : Int32) (l6 : Int32)  (m : pMem), k26 l1 l2 l3 l4 l6 m = some z → gM E kX9_isBound (z, m) 26 [(0, .ref (eA E 9)), (1, .int l1), (2, .int l2), (3, .int l3), (4, .int l4), (6, .int l6)] [] m) (l1 : Int32) (l2 : Int32) (l3 : Int32) (l4 : Int32) (l6 : Int32) (m : pMem) (hf : sX9_isBound_b73 k26 l1 l2 l3 l4 l6 m = some z) : gM E kX9_isBound (z, m) 73 [(0, .ref (eA E 9)), (1, .int l1), (2, .int l2), (3, .int l3), (4, .int l4), (6, .int l6)] [] m := by
  unfold sX9_isBound_b73 at hf
  refine g_aload_n (q := 0) dX9_isBound_73 rfl rfl ?_
  refine g_iload_n (q := 2) dX9_isBound_74 rfl rfl ?_
  refine g_iload (q := 5) dX9_isBound_75 rfl ?_
  obtain ⟨r13, q14, hf⟩ := cbR_ hf
  refine g_cV (As := [.int l2, .int l6]) dX9_isBound_77 (tX9_comesBy E m l2 l6 q14) gyX9_comesBy giX9_comesBy gsX9_comesBy mX9_193 (⟨rfl, rfl, Nat.le_of_ble_eq_true rfl, Nat.le_of_ble_eq_true rfl, Nat.le_of_ble_eq_true rfl, Nat.le_of_ble_eq_true rfl⟩) rfl (obX9 E m) rfl rfl rfl (Nat.le_of_ble_eq_true rfl) ?_
  refine g_if_eq (tgt := 96) dX9_isBound_80 (by decide) (fun c15 => ?_) (fun c15 => ?_)
  · have hf := it_ hf c15
    exact wX9_isBound_b96 E z k26 ih26 l1 l2 l3 l4 l6 m hf
  · have hf := ie_ hf c15
    refine g_aload_n (q := 0) dX9_isBound_83 rfl rfl ?_
    refine g_iload_n (q := 1) dX9_isBound_84 rfl rfl ?_
    refine g_iload_n (q := 2) dX9_isBound_85 rfl rfl ?_
    refine g_iload (q := 4) dX9_isBound_86 rfl ?_
    obtain ⟨r16, q17, hf⟩ := cbR_ hf
    refine g_cV (As := [.int l1, .int l2, .int l4]) dX9_isBound_88 (tX9_doWordsLet E m l1 l2 l4 q17) gyX9_doWordsLet giX9_doWordsLet gsX9_doWordsLet mX9_309 (⟨rfl, rfl, Nat.le_of_ble_eq_true rfl, Nat.le_of_ble_eq_true rfl, Nat.le_of_ble_eq_true rfl, Nat.le_of_ble_eq_true rfl⟩) rfl (obX9 E m) rfl rfl rfl (Nat.le_of_ble_eq_true rfl) ?_
    refine g_if_eq (tgt := 96) dX9_isBound_91 (by decide) (fun c18 => ?_) (fun c18 => ?_)
    · have hf := it_ hf c18
      exact wX9_isBound_b96 E z k26 ih26 l1 l2 l3 l4 l6 m hf
    · have hf := ie_ hf c18
      refine g_lv [] rfl ?_
      exact wX9_isBound_b94 E z  m hf
theorem wX9_isBound_b26 (E : pEv) (z : Int32) (k26 : Int32 → Int32 → Int32 → Int32 → Int32 → pMem → (Option Int32)) (ih26 : ∀ (l1 : Int32) (l2 : Int32) (l3 : Int32) (l4 : Int32) (l6 : Int32)  (m : pMem), k26 l1 l2 l3 l4 l6 m = some z → gM E kX9_isBound (z, m) 26 [(0, .ref (eA E 9)), (1, .int l1), (2, .int l2), (3, .int l3), (4, .int l4), (6, .int l6)] [] m) (l1 : Int32) (l2 : Int32) (l3 : Int32) (l4 : Int32) (l6 : Int32) (m : pMem) (hf : sX9_isBound_b26 k26 l1 l2 l3 l4 l6 m = some z) : gM E kX9_isBound (z, m) 26 [(0, .ref (eA E 9)), (1, .int l1), (2, .int l2), (3, .int l3), (4, .int l4), (6, .int l6)] [] m := by
  unfold sX9_isBound_b26 at hf
  refine g_iload (q := 5) dX9_isBound_26 rfl ?_
  refine g_iload_n (q := 3) dX9_isBound_28 rfl rfl ?_
  refine g_icmp_ge (tgt := 102) dX9_isBound_29 (by decide) (fun c5 => ?_) (fun c5 => ?_)
  · have hf := it_ hf c5
    refine g_iconst (v := 0) dX9_isBound_102 kI_0 ?_
    exact g_ret dX9_isBound_103 rfl kz_0 (by rw [Option.some.inj hf])
  · have hf := ie_ hf c5
    refine g_aload_n (q := 0) dX9_isBound_32 rfl rfl ?_
    refine g_get dX9_isBound_33 fX9_102 (obX9 E m) (gvX9_44 E m) ?_
    refine g_iload (q := 5) dX9_isBound_36 rfl ?_
    obtain ⟨h6, hf⟩ := gd_ hf
    refine g_zald dX9_isBound_38 ar_93 h6 ?_
    refine g_if_eq (tgt := 96) dX9_isBound_39 (by decide) (fun c7 => ?_) (fun c7 => ?_)
    · have hf := it_ hf c7
      exact wX9_isBound_b96 E z k26 ih26 l1 l2 l3 l4 l6 m hf
    · have hf := ie_ hf c7
      refine g_aload_n (q := 0) dX9_isBound_42 rfl rfl ?_
      refine g_get dX9_isBound_43 fX9_26 (obX9 E m) (gvX9_7 E m) ?_
      refine g_iload (q := 5) dX9_isBound_46 rfl ?_
      obtain ⟨h8, hf⟩ := gd_ hf
      refine g_iald dX9_isBound_48 ar_68 h8 ?_
      refine g_iconst (v := 2) dX9_isBound_49 kI_2 ?_
      refine g_icmp_ne (tgt := 73) dX9_isBound_50 (by decide) (fun c9 => ?_) (fun c9 => ?_)
      · have hf := it_ hf c9
        exact wX9_isBound_b73 E z k26 ih26 l1 l2 l3 l4 l6 m hf
      · have hf := ie_ hf (not_not_intro c9)
        refine g_aload_n (q := 0) dX9_isBound_53 rfl rfl ?_
        refine g_get dX9_isBound_54 fX9_32 (obX9 E m) (gvX9_9 E m) ?_
        refine g_iload (q := 5) dX9_isBound_57 rfl ?_
        obtain ⟨h10, hf⟩ := gd_ hf
        refine g_iald dX9_isBound_59 ar_70 h10 ?_
        refine g_iload_n (q := 2) dX9_isBound_60 rfl rfl ?_
        refine g_icmp_ne (tgt := 73) dX9_isBound_61 (by decide) (fun c11 => ?_) (fun c11 => ?_)
        · have hf := it_ hf c11
          exact wX9_isBound_b73 E z k26 ih26 l1 l2 l3 l4 l6 m hf
        · have hf := ie_ hf (not_not_intro c11)
          refine g_aload_n (q := 0) dX9_isBound_64 rfl rfl ?_
          refine g_get dX9_isBound_65 fX9_56 (obX9 E m) (gvX9_25 E m) ?_
          refine g_iconst (v := 0) dX9_isBound_68 kI_0 ?_
          refine g_iald dX9_isBound_69 ar_78 (by decide) ?_
          refine g_if_eq (tgt := 94) dX9_isBound_70 (by decide) (fun c12 => ?_) (fun c12 => ?_)
          · have hf := it_ hf c12
            refine g_lv [] rfl ?_
            exact wX9_isBound_b94 E z  m hf
          · have hf := ie_ hf c12
            exact wX9_isBound_b73 E z k26 ih26 l1 l2 l3 l4 l6 m hf
theorem wX9_isBound_l26 (E : pEv) (z : Int32) : ∀ (n : Nat) (l1 : Int32) (l2 : Int32) (l3 : Int32) (l4 : Int32) (l6 : Int32) (m : pMem), sX9_isBound_l26 n l1 l2 l3 l4 l6 m = some z → gM E kX9_isBound (z, m) 26 [(0, .ref (eA E 9)), (1, .int l1), (2, .int l2), (3, .int l3), (4, .int l4), (6, .int l6)] [] m := by
  intro n
  induction n with
  | zero => intro l1 l2 l3 l4 l6 m  hf; cases (show (none : Option _) = some z from hf)
  | succ n ih => intro l1 l2 l3 l4 l6 m  hf; exact wX9_isBound_b26 E z  _  ih l1 l2 l3 l4 l6 m  hf
theorem wX9_isBound_b23 (E : pEv) (z : Int32) (l1 : Int32) (l2 : Int32) (l3 : Int32) (l4 : Int32) (m : pMem) (hf : sX9_isBound_b23 l1 l2 l3 l4 m = some z) : gM E kX9_isBound (z, m) 23 [(0, .ref (eA E 9)), (1, .int l1), (2, .int l2), (3, .int l3), (4, .int l4)] [] m := by
  unfold sX9_isBound_b23 at hf
  refine g_iconst (v := 0) dX9_isBound_23 kI_0 ?_
  refine g_istore dX9_isBound_24 (Nat.le_of_ble_eq_true rfl) rfl ?_
  refine g_lv [1, 2, 3, 4, 5, 0] rfl ?_
  exact wX9_isBound_l26 E z  5000 l1 l2 l3 l4 0 m hf
theorem wX9_isBound_b0 (E : pEv) (z : Int32) (a1 : Int32) (a2 : Int32) (a3 : Int32) (a4 : Int32) (a5 : Int32) (m : pMem) (hf : sX9_isBound a1 a2 a3 a4 a5 m = some z) : gM E kX9_isBound (z, m) 0 [(0, .ref (eA E 9)), (1, .int a1), (2, .int a2), (3, .int a3), (4, .int a4), (5, .int a5)] [] m := by
  unfold sX9_isBound at hf
  refine g_aload_n (q := 0) dX9_isBound_0 rfl rfl ?_
  refine g_get dX9_isBound_1 fX9_62 (obX9 E m) (gvX9_28 E m) ?_
  refine g_iload_n (q := 1) dX9_isBound_4 rfl rfl ?_
  obtain ⟨h1, hf⟩ := gd_ hf
  refine g_iald dX9_isBound_5 ar_80 h1 ?_
  refine g_iload_n (q := 2) dX9_isBound_6 rfl rfl ?_
  refine g_icmp_ne (tgt := 23) dX9_isBound_7 (by decide) (fun c2 => ?_) (fun c2 => ?_)
  · have hf := it_ hf c2
    refine g_lv [0, 1, 2, 3, 4] rfl ?_
    exact wX9_isBound_b23 E z  a1 a2 a3 a4 m hf
  · have hf := ie_ hf (not_not_intro c2)
    refine g_aload_n (q := 0) dX9_isBound_10 rfl rfl ?_
    refine g_get dX9_isBound_11 fX9_71 (obX9 E m) (gvX9_31 E m) ?_
    refine g_iload_n (q := 1) dX9_isBound_14 rfl rfl ?_
    obtain ⟨h3, hf⟩ := gd_ hf
    refine g_iald dX9_isBound_15 ar_83 h3 ?_
    refine g_iload (q := 5) dX9_isBound_16 rfl ?_
    refine g_icmp_ge (tgt := 23) dX9_isBound_18 (by decide) (fun c4 => ?_) (fun c4 => ?_)
    · have hf := it_ hf c4
      refine g_lv [0, 1, 2, 3, 4] rfl ?_
      exact wX9_isBound_b23 E z  a1 a2 a3 a4 m hf
    · have hf := ie_ hf c4
      refine g_iconst (v := 1) dX9_isBound_21 kI_1 ?_
      exact g_ret dX9_isBound_22 rfl kz_1 (by rw [Option.some.inj hf])
theorem tX9_isBound (E : pEv) (m : pMem) (a1 : Int32) (a2 : Int32) (a3 : Int32) (a4 : Int32) (a5 : Int32) {z : Int32} (hf : sX9_isBound a1 a2 a3 a4 a5 m = some z) : gCn E yX9_isBound kX9_isBound [.ref (eA E 9), .int a1, .int a2, .int a3, .int a4, .int a5] m (z, m) := gCn_of (by decide +kernel) rfl rfl rfl (Nat.le_of_ble_eq_true rfl) rfl (wX9_isBound_b0 E z a1 a2 a3 a4 a5 m  hf)
theorem wX9_byTrade_b144 (E : pEv) (z : Int32 × pMem) (k100 : Int32 → Int32 → Int32 → Int32 → Int32 → pMem → gO) (ih100 : ∀ (l1 : Int32) (l2 : Int32) (l3 : Int32) (l4 : Int32) (l5 : Int32)  (m : pMem), k100 l1 l2 l3 l4 l5 m = some z → gM E kX9_byTrade z 100 [(0, .ref (eA E 9)), (1, .int l1), (2, .int l2), (3, .int l3), (4, .int l4), (5, .int l5)] [] m) (l1 : Int32) (l2 : Int32) (l3 : Int32) (l5 : Int32) (t0 : Int32) (t1 : Int32) (m : pMem) (hf : sX9_byTrade_b144 k100 l1 l2 l3 l5 t0 t1 m = some z) : gM E kX9_byTrade z 144 [(0, .ref (eA E 9)), (1, .int l1), (2, .int l2), (3, .int l3), (5, .int l5)] [.int t0, .int t1] m := by
  unfold sX9_byTrade_b144 at hf
  refine g_ior dX9_byTrade_144 ?_
  refine nmI hf (fun x20 hf => ?_)
  refine g_istore dX9_byTrade_145 (Nat.le_of_ble_eq_true rfl) rfl ?_
  refine g_iinc (q := 5) (v := l5 + 1) dX9_byTrade_147 rfl (by rw [kI_1]) (Nat.le_of_ble_eq_true rfl) rfl ?_
  refine g_goto (tgt := 100) dX9_byTrade_150 (by decide) ?_
  refine g_lv [2, 3, 4, 5, 1, 0] rfl ?_
  exact ih100 l1 l2 l3 x20 (l5 + 1) m hf
theorem wX9_byTrade_b143 (E : pEv) (z : Int32 × pMem) (k100 : Int32 → Int32 → Int32 → Int32 → Int32 → pMem → gO) (ih100 : ∀ (l1 : Int32) (l2 : Int32) (l3 : Int32) (l4 : Int32) (l5 : Int32)  (m : pMem), k100 l1 l2 l3 l4 l5 m = some z → gM E kX9_byTrade z 100 [(0, .ref (eA E 9)), (1, .int l1), (2, .int l2), (3, .int l3), (4, .int l4), (5, .int l5)] [] m) (l1 : Int32) (l2 : Int32) (l3 : Int32) (l5 : Int32) (t0 : Int32) (m : pMem) (hf : sX9_byTrade_b143 k100 l1 l2 l3 l5 t0 m = some z) : gM E kX9_byTrade z 143 [(0, .ref (eA E 9)), (1, .int l1), (2, .int l2), (3, .int l3), (5, .int l5)] [.int t0] m := by
  unfold sX9_byTrade_b143 at hf
  refine g_iconst (v := 0) dX9_byTrade_143 kI_0 ?_
  exact wX9_byTrade_b144 E z k100 ih100 l1 l2 l3 l5 0 t0 m hf
theorem wX9_byTrade_b100 (E : pEv) (z : Int32 × pMem) (k100 : Int32 → Int32 → Int32 → Int32 → Int32 → pMem → gO) (ih100 : ∀ (l1 : Int32) (l2 : Int32) (l3 : Int32) (l4 : Int32) (l5 : Int32)  (m : pMem), k100 l1 l2 l3 l4 l5 m = some z → gM E kX9_byTrade z 100 [(0, .ref (eA E 9)), (1, .int l1), (2, .int l2), (3, .int l3), (4, .int l4), (5, .int l5)] [] m) (l1 : Int32) (l2 : Int32) (l3 : Int32) (l4 : Int32) (l5 : Int32) (m : pMem) (hf : sX9_byTrade_b100 k100 l1 l2 l3 l4 l5 m = some z) : gM E kX9_byTrade z 100 [(0, .ref (eA E 9)), (1, .int l1), (2, .int l2), (3, .int l3), (4, .int l4), (5, .int l5)] [] m := by
  unfold sX9_byTrade_b100 at hf
  refine g_iload (q := 5) dX9_byTrade_100 rfl ?_
  refine g_aload_n (q := 0) dX9_byTrade_102 rfl rfl ?_
  refine g_get dX9_byTrade_103 fX9_16 (obX9 E m) (gvX9_3 E m) ?_
  refine g_icmp_ge (tgt := 153) dX9_byTrade_106 (by decide) (fun c6 => ?_) (fun c6 => ?_)
  · have hf := it_ hf c6
    refine g_iload (q := 4) dX9_byTrade_153 rfl ?_
    exact g_ret dX9_byTrade_155 rfl rfl (Option.some.inj hf).symm
  · have hf := ie_ hf c6
    refine g_iload (q := 4) dX9_byTrade_109 rfl ?_
    refine g_aload_n (q := 0) dX9_byTrade_111 rfl rfl ?_
    refine g_iload (q := 5) dX9_byTrade_112 rfl ?_
    refine g_iload_n (q := 2) dX9_byTrade_114 rfl rfl ?_
    obtain ⟨r7, q8, hf⟩ := cbR_ hf
    refine g_cV (As := [.int l5, .int l2]) dX9_byTrade_115 (tX9_isThere E m l5 l2 q8) gyX9_isThere giX9_isThere gsX9_isThere mX9_172 (⟨rfl, rfl, Nat.le_of_ble_eq_true rfl, Nat.le_of_ble_eq_true rfl, Nat.le_of_ble_eq_true rfl, Nat.le_of_ble_eq_true rfl⟩) rfl (obX9 E m) rfl rfl rfl (Nat.le_of_ble_eq_true rfl) ?_
    refine g_if_eq (tgt := 143) dX9_byTrade_118 (by decide) (fun c9 => ?_) (fun c9 => ?_)
    · have hf := it_ hf c9
      refine g_lv [0, 1, 2, 3, 5] rfl ?_
      exact wX9_byTrade_b143 E z k100 ih100 l1 l2 l3 l5 l4 m hf
    · have hf := ie_ hf c9
      refine g_aload_n (q := 0) dX9_byTrade_121 rfl rfl ?_
      refine g_iload_n (q := 1) dX9_byTrade_122 rfl rfl ?_
      refine g_iload (q := 5) dX9_byTrade_123 rfl ?_
      refine g_iload_n (q := 2) dX9_byTrade_125 rfl rfl ?_
      refine g_iload_n (q := 3) dX9_byTrade_126 rfl rfl ?_
      refine g_iload_n (q := 3) dX9_byTrade_127 rfl rfl ?_
      refine g_iconst (v := 1) dX9_byTrade_128 kI_1 ?_
      refine g_iadd dX9_byTrade_129 ?_
      obtain ⟨r10, q11, hf⟩ := cbR_ hf
      refine g_cV (As := [.int l1, .int l5, .int l2, .int l3, .int (l3 + (1 : Int32))]) dX9_byTrade_130 (tX9_isBound E m l1 l5 l2 l3 (l3 + (1 : Int32)) q11) gyX9_isBound giX9_isBound gsX9_isBound mX9_312 (⟨rfl, rfl, Nat.le_of_ble_eq_true rfl, Nat.le_of_ble_eq_true rfl, Nat.le_of_ble_eq_true rfl, Nat.le_of_ble_eq_true rfl⟩) rfl (obX9 E m) rfl rfl rfl (Nat.le_of_ble_eq_true rfl) ?_
      refine g_if_eq (tgt := 143) dX9_byTrade_133 (by decide) (fun c12 => ?_) (fun c12 => ?_)
      · have hf := it_ hf c12
        refine g_lv [0, 1, 2, 3, 5] rfl ?_
        exact wX9_byTrade_b143 E z k100 ih100 l1 l2 l3 l5 l4 m hf
      · have hf := ie_ hf c12
        refine g_iconst (v := 1) dX9_byTrade_136 kI_1 ?_
        refine g_iload (q := 5) dX9_byTrade_137 rfl ?_
        refine g_ishl dX9_byTrade_139 ?_
        refine g_goto (tgt := 144) dX9_byTrade_140 (by decide) ?_
        refine g_lv [0, 1, 2, 3, 5] rfl ?_
        exact wX9_byTrade_b144 E z k100 ih100 l1 l2 l3 l5 ((1 : Int32) <<< (l5 &&& 31)) l4 m hf
theorem wX9_byTrade_l100 (E : pEv) (z : Int32 × pMem) : ∀ (n : Nat) (l1 : Int32) (l2 : Int32) (l3 : Int32) (l4 : Int32) (l5 : Int32) (m : pMem), sX9_byTrade_l100 n l1 l2 l3 l4 l5 m = some z → gM E kX9_byTrade z 100 [(0, .ref (eA E 9)), (1, .int l1), (2, .int l2), (3, .int l3), (4, .int l4), (5, .int l5)] [] m := by
  intro n
  induction n with
  | zero => intro l1 l2 l3 l4 l5 m  hf; cases (show (none : Option _) = some z from hf)
  | succ n ih => intro l1 l2 l3 l4 l5 m  hf; exact wX9_byTrade_b100 E z  _  ih l1 l2 l3 l4 l5 m  hf
theorem wX9_byTrade_b87 (E : pEv) (z : Int32 × pMem) (k3 : Int32 → Int32 → Int32 → Int32 → pMem → gO) (ih3 : ∀ (l1 : Int32) (l2 : Int32) (l3 : Int32) (l4 : Int32)  (m : pMem), k3 l1 l2 l3 l4 m = some z → gM E kX9_byTrade z 3 [(0, .ref (eA E 9)), (1, .int l1), (2, .int l2), (3, .int l3), (4, .int l4)] [] m) (l1 : Int32) (l2 : Int32) (l3 : Int32) (l4 : Int32) (t0 : Int32) (t1 : Int32) (m : pMem) (hf : sX9_byTrade_b87 k3 l1 l2 l3 l4 t0 t1 m = some z) : gM E kX9_byTrade z 87 [(0, .ref (eA E 9)), (1, .int l1), (2, .int l2), (3, .int l3), (4, .int l4)] [.int t0, .int t1, .ref (eA E 93)] m := by
  unfold sX9_byTrade_b87 at hf
  obtain ⟨h21, hf⟩ := gd_ hf
  refine g_zast dX9_byTrade_87 ar_93 h21 ?_
  refine nmG hf (fun m22 hf => ?_)
  refine g_iinc (q := 4) (v := l4 + 1) dX9_byTrade_88 rfl (by rw [kI_1]) (Nat.le_of_ble_eq_true rfl) rfl ?_
  refine g_goto (tgt := 3) dX9_byTrade_91 (by decide) ?_
  refine g_lv [1, 2, 3, 4, 0] rfl ?_
  exact ih3 l1 l2 l3 (l4 + 1) m22 hf
theorem wX9_byTrade_b86 (E : pEv) (z : Int32 × pMem) (k3 : Int32 → Int32 → Int32 → Int32 → pMem → gO) (ih3 : ∀ (l1 : Int32) (l2 : Int32) (l3 : Int32) (l4 : Int32)  (m : pMem), k3 l1 l2 l3 l4 m = some z → gM E kX9_byTrade z 3 [(0, .ref (eA E 9)), (1, .int l1), (2, .int l2), (3, .int l3), (4, .int l4)] [] m) (l1 : Int32) (l2 : Int32) (l3 : Int32) (l4 : Int32) (t0 : Int32) (m : pMem) (hf : sX9_byTrade_b86 k3 l1 l2 l3 l4 t0 m = some z) : gM E kX9_byTrade z 86 [(0, .ref (eA E 9)), (1, .int l1), (2, .int l2), (3, .int l3), (4, .int l4)] [.int t0, .ref (eA E 93)] m := by
  unfold sX9_byTrade_b86 at hf
  refine g_iconst (v := 0) dX9_byTrade_86 kI_0 ?_
  exact wX9_byTrade_b87 E z k3 ih3 l1 l2 l3 l4 0 t0 m hf
theorem wX9_byTrade_b37 (E : pEv) (z : Int32 × pMem) (k3 : Int32 → Int32 → Int32 → Int32 → pMem → gO) (ih3 : ∀ (l1 : Int32) (l2 : Int32) (l3 : Int32) (l4 : Int32)  (m : pMem), k3 l1 l2 l3 l4 m = some z → gM E kX9_byTrade z 3 [(0, .ref (eA E 9)), (1, .int l1), (2, .int l2), (3, .int l3), (4, .int l4)] [] m) (l1 : Int32) (l2 : Int32) (l3 : Int32) (l4 : Int32) (t0 : Int32) (m : pMem) (hf : sX9_byTrade_b37 k3 l1 l2 l3 l4 t0 m = some z) : gM E kX9_byTrade z 37 [(0, .ref (eA E 9)), (1, .int l1), (2, .int l2), (3, .int l3), (4, .int l4)] [.int t0] m := by
  unfold sX9_byTrade_b37 at hf
  refine g_istore dX9_byTrade_37 (Nat.le_of_ble_eq_true rfl) rfl ?_
  refine g_aload_n (q := 1) dX9_byTrade_39 rfl rfl ?_
  refine g_get dX9_byTrade_40 fX9_102 (obX9 E m) (gvX9_44 E m) ?_
  refine g_iload (q := 5) dX9_byTrade_43 rfl ?_
  refine g_aload_n (q := 1) dX9_byTrade_45 rfl rfl ?_
  refine g_get dX9_byTrade_46 fX9_26 (obX9 E m) (gvX9_7 E m) ?_
  refine g_iload (q := 5) dX9_byTrade_49 rfl ?_
  obtain ⟨h13, hf⟩ := gd_ hf
  refine g_iald dX9_byTrade_51 ar_68 h13 ?_
  refine g_iconst (v := 3) dX9_byTrade_52 kI_3 ?_
  refine g_icmp_ge (tgt := 86) dX9_byTrade_53 (by decide) (fun c14 => ?_) (fun c14 => ?_)
  · have hf := it_ hf c14
    refine g_lv [1, 2, 3, 4, 5] rfl ?_
    exact wX9_byTrade_b86 E z k3 ih3 l1 l2 l3 l4 l4 m hf
  · have hf := ie_ hf c14
    refine g_aload_n (q := 1) dX9_byTrade_56 rfl rfl ?_
    refine g_iload_n (q := 2) dX9_byTrade_57 rfl rfl ?_
    refine g_iload (q := 0) dX9_byTrade_58 rfl ?_
    refine g_iload (q := 5) dX9_byTrade_60 rfl ?_
    refine g_aload_n (q := 1) dX9_byTrade_62 rfl rfl ?_
    refine g_get dX9_byTrade_63 fX9_29 (obX9 E m) (gvX9_8 E m) ?_
    refine g_iload (q := 5) dX9_byTrade_66 rfl ?_
    obtain ⟨h15, hf⟩ := gd_ hf
    refine g_iald dX9_byTrade_68 ar_69 h15 ?_
    refine g_aload_n (q := 1) dX9_byTrade_69 rfl rfl ?_
    refine g_get dX9_byTrade_70 fX9_29 (obX9 E m) (gvX9_8 E m) ?_
    refine g_iload (q := 5) dX9_byTrade_73 rfl ?_
    obtain ⟨h16, hf⟩ := gd_ hf
    refine g_iald dX9_byTrade_75 ar_69 h16 ?_
    obtain ⟨r17, q18, hf⟩ := cbR_ hf
    refine g_cV (As := [.int l1, .int t0, .int l4, .int (m.1 69 l4.toNatClampNeg), .int (m.1 69 l4.toNatClampNeg)]) dX9_byTrade_76 (tX9_isBound E m l1 t0 l4 (m.1 69 l4.toNatClampNeg) (m.1 69 l4.toNatClampNeg) q18) gyX9_isBound giX9_isBound gsX9_isBound mX9_312 (⟨rfl, rfl, Nat.le_of_ble_eq_true rfl, Nat.le_of_ble_eq_true rfl, Nat.le_of_ble_eq_true rfl, Nat.le_of_ble_eq_true rfl⟩) rfl (obX9 E m) rfl rfl rfl (Nat.le_of_ble_eq_true rfl) ?_
    refine g_if_eq (tgt := 86) dX9_byTrade_79 (by decide) (fun c19 => ?_) (fun c19 => ?_)
    · have hf := it_ hf c19
      refine g_lv [1, 2, 3, 4, 5] rfl ?_
      exact wX9_byTrade_b86 E z k3 ih3 l1 l2 l3 l4 l4 m hf
    · have hf := ie_ hf c19
      refine g_iconst (v := 1) dX9_byTrade_82 kI_1 ?_
      refine g_goto (tgt := 87) dX9_byTrade_83 (by decide) ?_
      refine g_lv [1, 2, 3, 4, 5] rfl ?_
      exact wX9_byTrade_b87 E z k3 ih3 l1 l2 l3 l4 1 l4 m hf
theorem wX9_byTrade_b3 (E : pEv) (z : Int32 × pMem) (k3 : Int32 → Int32 → Int32 → Int32 → pMem → gO) (ih3 : ∀ (l1 : Int32) (l2 : Int32) (l3 : Int32) (l4 : Int32)  (m : pMem), k3 l1 l2 l3 l4 m = some z → gM E kX9_byTrade z 3 [(0, .ref (eA E 9)), (1, .int l1), (2, .int l2), (3, .int l3), (4, .int l4)] [] m) (l1 : Int32) (l2 : Int32) (l3 : Int32) (l4 : Int32) (m : pMem) (hf : sX9_byTrade_b3 k3 l1 l2 l3 l4 m = some z) : gM E kX9_byTrade z 3 [(0, .ref (eA E 9)), (1, .int l1), (2, .int l2), (3, .int l3), (4, .int l4)] [] m := by
  unfold sX9_byTrade_b3 at hf
  refine g_iload (q := 4) dX9_byTrade_3 rfl ?_
  refine g_iload_n (q := 2) dX9_byTrade_5 rfl rfl ?_
  refine g_icmp_ge (tgt := 94) dX9_byTrade_6 (by decide) (fun c1 => ?_) (fun c1 => ?_)
  · have hf := it_ hf c1
    refine g_iconst (v := 0) dX9_byTrade_94 kI_0 ?_
    refine g_istore dX9_byTrade_95 (Nat.le_of_ble_eq_true rfl) rfl ?_
    refine g_iconst (v := 0) dX9_byTrade_97 kI_0 ?_
    refine g_istore dX9_byTrade_98 (Nat.le_of_ble_eq_true rfl) rfl ?_
    refine g_lv [2, 3, 4, 5, 1, 0] rfl ?_
    exact wX9_byTrade_l100 E z  5000 l1 l2 l3 0 0 m hf
  · have hf := ie_ hf c1
    refine g_aload_n (q := 0) dX9_byTrade_9 rfl rfl ?_
    refine g_get dX9_byTrade_10 fX9_26 (obX9 E m) (gvX9_7 E m) ?_
    refine g_iload (q := 4) dX9_byTrade_13 rfl ?_
    obtain ⟨h2, hf⟩ := gd_ hf
    refine g_iald dX9_byTrade_15 ar_68 h2 ?_
    refine g_iconst (v := 2) dX9_byTrade_16 kI_2 ?_
    refine g_icmp_ne (tgt := 30) dX9_byTrade_17 (by decide) (fun c3 => ?_) (fun c3 => ?_)
    · have hf := it_ hf c3
      refine g_aload_n (q := 0) dX9_byTrade_30 rfl rfl ?_
      refine g_get dX9_byTrade_31 fX9_32 (obX9 E m) (gvX9_9 E m) ?_
      refine g_iload (q := 4) dX9_byTrade_34 rfl ?_
      obtain ⟨h4, hf⟩ := gd_ hf
      refine g_iald dX9_byTrade_36 ar_70 h4 ?_
      exact wX9_byTrade_b37 E z k3 ih3 l1 l2 l3 l4 (m.1 70 l4.toNatClampNeg) m hf
    · have hf := ie_ hf (not_not_intro c3)
      refine g_aload_n (q := 0) dX9_byTrade_20 rfl rfl ?_
      refine g_get dX9_byTrade_21 fX9_35 (obX9 E m) (gvX9_10 E m) ?_
      refine g_iload (q := 4) dX9_byTrade_24 rfl ?_
      obtain ⟨h5, hf⟩ := gd_ hf
      refine g_iald dX9_byTrade_26 ar_71 h5 ?_
      refine g_goto (tgt := 37) dX9_byTrade_27 (by decide) ?_
      exact wX9_byTrade_b37 E z k3 ih3 l1 l2 l3 l4 (m.1 71 l4.toNatClampNeg) m hf
theorem wX9_byTrade_l3 (E : pEv) (z : Int32 × pMem) : ∀ (n : Nat) (l1 : Int32) (l2 : Int32) (l3 : Int32) (l4 : Int32) (m : pMem), sX9_byTrade_l3 n l1 l2 l3 l4 m = some z → gM E kX9_byTrade z 3 [(0, .ref (eA E 9)), (1, .int l1), (2, .int l2), (3, .int l3), (4, .int l4)] [] m := by
  intro n
  induction n with
  | zero => intro l1 l2 l3 l4 m  hf; cases (show (none : Option _) = some z from hf)
  | succ n ih => intro l1 l2 l3 l4 m  hf; exact wX9_byTrade_b3 E z  _  ih l1 l2 l3 l4 m  hf
theorem wX9_byTrade_b0 (E : pEv) (z : Int32 × pMem) (a1 : Int32) (a2 : Int32) (a3 : Int32) (m : pMem) (hf : sX9_byTrade a1 a2 a3 m = some z) : gM E kX9_byTrade z 0 [(0, .ref (eA E 9)), (1, .int a1), (2, .int a2), (3, .int a3)] [] m := by
  unfold sX9_byTrade at hf
  refine g_iconst (v := 0) dX9_byTrade_0 kI_0 ?_
  refine g_istore dX9_byTrade_1 (Nat.le_of_ble_eq_true rfl) rfl ?_
  refine g_lv [1, 2, 3, 4, 0] rfl ?_
  exact wX9_byTrade_l3 E z  5000 a1 a2 a3 0 m hf
theorem tX9_byTrade (E : pEv) (m : pMem) (a1 : Int32) (a2 : Int32) (a3 : Int32) {z : Int32 × pMem} (hf : sX9_byTrade a1 a2 a3 m = some z) : gCn E yX9_byTrade kX9_byTrade [.ref (eA E 9), .int a1, .int a2, .int a3] m z := gCn_of (by decide +kernel) rfl rfl rfl (Nat.le_of_ble_eq_true rfl) rfl (wX9_byTrade_b0 E z a1 a2 a3 m  hf)
theorem wX9_boundOf_b75 (E : pEv) (z : Int32 × pMem) (t0 : Int32) (m : pMem) (hf : sX9_boundOf_b75 t0 m = some z) : gM E kX9_boundOf z 75 [] [.int t0] m := by
  unfold sX9_boundOf_b75 at hf
  exact g_ret dX9_boundOf_75 rfl rfl (Option.some.inj hf).symm
theorem wX9_boundOf_b0 (E : pEv) (z : Int32 × pMem) (a1 : Int32) (a2 : Int32) (m : pMem) (hf : sX9_boundOf a1 a2 m = some z) : gM E kX9_boundOf z 0 [(0, .ref (eA E 9)), (1, .int a1), (2, .int a2)] [] m := by
  unfold sX9_boundOf at hf
  refine g_iload_n (q := 2) dX9_boundOf_0 rfl rfl ?_
  refine g_aload_n (q := 0) dX9_boundOf_1 rfl rfl ?_
  refine g_get dX9_boundOf_2 fX9_71 (obX9 E m) (gvX9_31 E m) ?_
  refine g_iload_n (q := 1) dX9_boundOf_5 rfl rfl ?_
  obtain ⟨h1, hf⟩ := gd_ hf
  refine g_iald dX9_boundOf_6 ar_83 h1 ?_
  refine g_icmp_ge (tgt := 12) dX9_boundOf_7 (by decide) (fun c2 => ?_) (fun c2 => ?_)
  · have hf := it_ hf c2
    refine g_aload_n (q := 0) dX9_boundOf_12 rfl rfl ?_
    refine g_iload_n (q := 2) dX9_boundOf_13 rfl rfl ?_
    obtain ⟨r3, q4, hf⟩ := cbR_ hf
    refine g_cV (As := [.int a2]) dX9_boundOf_14 (tX9_doneBy E m a2 q4) gyX9_doneBy giX9_doneBy gsX9_doneBy mX9_183 (⟨rfl, rfl, Nat.le_of_ble_eq_true rfl, Nat.le_of_ble_eq_true rfl, Nat.le_of_ble_eq_true rfl, Nat.le_of_ble_eq_true rfl⟩) rfl (obX9 E m) rfl rfl rfl (Nat.le_of_ble_eq_true rfl) ?_
    refine g_istore_n dX9_boundOf_17 rfl (Nat.le_of_ble_eq_true rfl) rfl ?_
    refine g_aload_n (q := 1) dX9_boundOf_18 rfl rfl ?_
    refine g_get dX9_boundOf_19 fX9_59 (obX9 E m) (gvX9_27 E m) ?_
    refine g_iload_n (q := 2) dX9_boundOf_22 rfl rfl ?_
    obtain ⟨h5, hf⟩ := gd_ hf
    refine g_iald dX9_boundOf_23 ar_79 h5 ?_
    refine g_if_ne (tgt := 48) dX9_boundOf_24 (by decide) (fun c6 => ?_) (fun c6 => ?_)
    · have hf := it_ hf c6
      refine g_aload_n (q := 1) dX9_boundOf_48 rfl rfl ?_
      refine g_get dX9_boundOf_49 fX9_59 (obX9 E m) (gvX9_27 E m) ?_
      refine g_iload_n (q := 2) dX9_boundOf_52 rfl rfl ?_
      obtain ⟨h7, hf⟩ := gd_ hf
      refine g_iald dX9_boundOf_53 ar_79 h7 ?_
      refine g_iconst (v := 1) dX9_boundOf_54 kI_1 ?_
      refine g_icmp_ne (tgt := 68) dX9_boundOf_55 (by decide) (fun c8 => ?_) (fun c8 => ?_)
      · have hf := it_ hf c8
        refine g_aload_n (q := 1) dX9_boundOf_68 rfl rfl ?_
        refine g_iload_n (q := 2) dX9_boundOf_69 rfl rfl ?_
        refine g_iload_n (q := 0) dX9_boundOf_70 rfl rfl ?_
        refine g_iload_n (q := 3) dX9_boundOf_71 rfl rfl ?_
        obtain ⟨r9, m11, q10, hf⟩ := cbE_ hf
        refine g_cV (As := [.int a1, .int r3, .int a2]) dX9_boundOf_72 (tX9_byTrade E m a1 r3 a2 q10) gyX9_byTrade giX9_byTrade gsX9_byTrade mX9_322 (⟨rfl, rfl, Nat.le_of_ble_eq_true rfl, Nat.le_of_ble_eq_true rfl, Nat.le_of_ble_eq_true rfl, Nat.le_of_ble_eq_true rfl⟩) rfl (obX9 E m) rfl rfl rfl (Nat.le_of_ble_eq_true rfl) ?_
        refine g_lv [] rfl ?_
        exact wX9_boundOf_b75 E z  r9 m11 hf
      · have hf := ie_ hf (not_not_intro c8)
        refine g_aload_n (q := 1) dX9_boundOf_58 rfl rfl ?_
        refine g_iload_n (q := 2) dX9_boundOf_59 rfl rfl ?_
        refine g_iload_n (q := 0) dX9_boundOf_60 rfl rfl ?_
        refine g_iload_n (q := 3) dX9_boundOf_61 rfl rfl ?_
        obtain ⟨r12, q13, hf⟩ := cbR_ hf
        refine g_cV (As := [.int a1, .int r3, .int a2]) dX9_boundOf_62 (tX9_byRank E m a1 r3 a2 q13) gyX9_byRank giX9_byRank gsX9_byRank mX9_319 (⟨rfl, rfl, Nat.le_of_ble_eq_true rfl, Nat.le_of_ble_eq_true rfl, Nat.le_of_ble_eq_true rfl, Nat.le_of_ble_eq_true rfl⟩) rfl (obX9 E m) rfl rfl rfl (Nat.le_of_ble_eq_true rfl) ?_
        refine g_goto (tgt := 75) dX9_boundOf_65 (by decide) ?_
        refine g_lv [] rfl ?_
        exact wX9_boundOf_b75 E z  r12 m hf
    · have hf := ie_ hf (not_not_intro c6)
      refine g_iconst (v := 1) dX9_boundOf_27 kI_1 ?_
      refine g_aload_n (q := 1) dX9_boundOf_28 rfl rfl ?_
      refine g_get dX9_boundOf_29 fX9_44 (obX9 E m) (gvX9_13 E m) ?_
      refine g_bipush (v := 8) dX9_boundOf_32 kB_8 ?_
      refine g_iload_n (q := 0) dX9_boundOf_34 rfl rfl ?_
      refine g_imul dX9_boundOf_35 ?_
      refine g_aload_n (q := 1) dX9_boundOf_36 rfl rfl ?_
      refine g_get dX9_boundOf_37 fX9_68 (obX9 E m) (gvX9_30 E m) ?_
      refine g_iload_n (q := 2) dX9_boundOf_40 rfl rfl ?_
      obtain ⟨h14, hf⟩ := gd_ hf
      refine g_iald dX9_boundOf_41 ar_82 h14 ?_
      refine g_iadd dX9_boundOf_42 ?_
      obtain ⟨h15, hf⟩ := gd_ hf
      refine g_iald dX9_boundOf_43 ar_74 h15 ?_
      refine g_ishl dX9_boundOf_44 ?_
      refine g_goto (tgt := 75) dX9_boundOf_45 (by decide) ?_
      refine g_lv [] rfl ?_
      exact wX9_boundOf_b75 E z  ((1 : Int32) <<< ((m.1 74 ((((8 : Int32) * r3) + (m.1 82 a1.toNatClampNeg)).toNatClampNeg)) &&& 31)) m hf
  · have hf := ie_ hf c2
    refine g_iconst (v := 0) dX9_boundOf_10 kI_0 ?_
    exact g_ret dX9_boundOf_11 rfl rfl (Option.some.inj hf).symm
theorem tX9_boundOf (E : pEv) (m : pMem) (a1 : Int32) (a2 : Int32) {z : Int32 × pMem} (hf : sX9_boundOf a1 a2 m = some z) : gCn E yX9_boundOf kX9_boundOf [.ref (eA E 9), .int a1, .int a2] m z := gCn_of (by decide +kernel) rfl rfl rfl (Nat.le_of_ble_eq_true rfl) rfl (wX9_boundOf_b0 E z a1 a2 m  hf)
theorem wX9_bound_b29 (E : pEv) (z : Int32 × pMem) (t0 : Int32) (m : pMem) (hf : sX9_bound_b29 t0 m = some z) : gM E kX9_bound z 29 [] [.int t0] m := by
  unfold sX9_bound_b29 at hf
  exact g_ret dX9_bound_29 rfl rfl (Option.some.inj hf).symm
theorem wX9_bound_b0 (E : pEv) (z : Int32 × pMem) (a1 : Int32) (a2 : Int32) (m : pMem) (hf : sX9_bound a1 a2 m = some z) : gM E kX9_bound z 0 [(0, .ref (eA E 9)), (1, .int a1), (2, .int a2)] [] m := by
  unfold sX9_bound at hf
  refine g_aload_n (q := 0) dX9_bound_0 rfl rfl ?_
  refine g_iload_n (q := 1) dX9_bound_1 rfl rfl ?_
  obtain ⟨r1, q2, hf⟩ := cbR_ hf
  refine g_cV (As := [.int a1]) dX9_bound_2 (tX9_isPact E m a1 q2) gyX9_isPact giX9_isPact gsX9_isPact mX9_289 (⟨rfl, rfl, Nat.le_of_ble_eq_true rfl, Nat.le_of_ble_eq_true rfl, Nat.le_of_ble_eq_true rfl, Nat.le_of_ble_eq_true rfl⟩) rfl (obX9 E m) rfl rfl rfl (Nat.le_of_ble_eq_true rfl) ?_
  refine g_if_ne (tgt := 11) dX9_bound_5 (by decide) (fun c3 => ?_) (fun c3 => ?_)
  · have hf := it_ hf c3
    refine g_iload_n (q := 2) dX9_bound_11 rfl rfl ?_
    obtain ⟨r4, q5, hf⟩ := cbR_ hf
    refine g_cS (As := [.int a2]) dX9_bound_12 (tX9_isDay E m a2 q5) gyX9_isDay giX9_isDay mX9_165 (⟨rfl, rfl, Nat.le_of_ble_eq_true rfl, Nat.le_of_ble_eq_true rfl, Nat.le_of_ble_eq_true rfl, Nat.le_of_ble_eq_true rfl⟩) rfl rfl rfl (Nat.le_of_ble_eq_true rfl) ?_
    refine g_if_eq (tgt := 27) dX9_bound_15 (by decide) (fun c6 => ?_) (fun c6 => ?_)
    · have hf := it_ hf c6
      refine g_bipush (v := (-3)) dX9_bound_27 kB_m3 ?_
      refine g_lv [] rfl ?_
      exact wX9_bound_b29 E z  (-3) m hf
    · have hf := ie_ hf c6
      refine g_aload_n (q := 0) dX9_bound_18 rfl rfl ?_
      refine g_iload_n (q := 1) dX9_bound_19 rfl rfl ?_
      refine g_iload_n (q := 2) dX9_bound_20 rfl rfl ?_
      obtain ⟨r7, m9, q8, hf⟩ := cbE_ hf
      refine g_cV (As := [.int a1, .int a2]) dX9_bound_21 (tX9_boundOf E m a1 a2 q8) gyX9_boundOf giX9_boundOf gsX9_boundOf mX9_325 (⟨rfl, rfl, Nat.le_of_ble_eq_true rfl, Nat.le_of_ble_eq_true rfl, Nat.le_of_ble_eq_true rfl, Nat.le_of_ble_eq_true rfl⟩) rfl (obX9 E m) rfl rfl rfl (Nat.le_of_ble_eq_true rfl) ?_
      refine g_goto (tgt := 29) dX9_bound_24 (by decide) ?_
      refine g_lv [] rfl ?_
      exact wX9_bound_b29 E z  r7 m9 hf
  · have hf := ie_ hf (not_not_intro c3)
    refine g_bipush (v := (-2)) dX9_bound_8 kB_m2 ?_
    exact g_ret dX9_bound_10 rfl rfl (Option.some.inj hf).symm
theorem tX9_bound (E : pEv) (m : pMem) (a1 : Int32) (a2 : Int32) {z : Int32 × pMem} (hf : sX9_bound a1 a2 m = some z) : gCn E yX9_bound kX9_bound [.ref (eA E 9), .int a1, .int a2] m z := gCn_of (by decide +kernel) rfl rfl rfl (Nat.le_of_ble_eq_true rfl) rfl (wX9_bound_b0 E z a1 a2 m  hf)
theorem wX9_burden_b43 (E : pEv) (z : Int32 × pMem) (t0 : Int32) (m : pMem) (hf : sX9_burden_b43 t0 m = some z) : gM E kX9_burden z 43 [] [.int t0] m := by
  unfold sX9_burden_b43 at hf
  exact g_ret dX9_burden_43 rfl rfl (Option.some.inj hf).symm
theorem wX9_burden_b41 (E : pEv) (z : Int32 × pMem) (m : pMem) (hf : sX9_burden_b41  m = some z) : gM E kX9_burden z 41 [] [] m := by
  unfold sX9_burden_b41 at hf
  refine g_bipush (v := (-3)) dX9_burden_41 kB_m3 ?_
  exact wX9_burden_b43 E z  (-3) m hf
theorem wX9_burden_b0 (E : pEv) (z : Int32 × pMem) (a1 : Int32) (a2 : Int32) (a3 : Int32) (m : pMem) (hf : sX9_burden a1 a2 a3 m = some z) : gM E kX9_burden z 0 [(0, .ref (eA E 9)), (1, .int a1), (2, .int a2), (3, .int a3)] [] m := by
  unfold sX9_burden at hf
  refine g_aload_n (q := 0) dX9_burden_0 rfl rfl ?_
  refine g_iload_n (q := 1) dX9_burden_1 rfl rfl ?_
  obtain ⟨r1, q2, hf⟩ := cbR_ hf
  refine g_cV (As := [.int a1]) dX9_burden_2 (tX9_isLand E m a1 q2) gyX9_isLand giX9_isLand gsX9_isLand mX9_187 (⟨rfl, rfl, Nat.le_of_ble_eq_true rfl, Nat.le_of_ble_eq_true rfl, Nat.le_of_ble_eq_true rfl, Nat.le_of_ble_eq_true rfl⟩) rfl (obX9 E m) rfl rfl rfl (Nat.le_of_ble_eq_true rfl) ?_
  refine g_if_ne (tgt := 11) dX9_burden_5 (by decide) (fun c3 => ?_) (fun c3 => ?_)
  · have hf := it_ hf c3
    refine g_iload_n (q := 2) dX9_burden_11 rfl rfl ?_
    obtain ⟨r4, q5, hf⟩ := cbR_ hf
    refine g_cS (As := [.int a2]) dX9_burden_12 (tX9_isDay E m a2 q5) gyX9_isDay giX9_isDay mX9_165 (⟨rfl, rfl, Nat.le_of_ble_eq_true rfl, Nat.le_of_ble_eq_true rfl, Nat.le_of_ble_eq_true rfl, Nat.le_of_ble_eq_true rfl⟩) rfl rfl rfl (Nat.le_of_ble_eq_true rfl) ?_
    refine g_if_eq (tgt := 41) dX9_burden_15 (by decide) (fun c6 => ?_) (fun c6 => ?_)
    · have hf := it_ hf c6
      refine g_lv [] rfl ?_
      exact wX9_burden_b41 E z  m hf
    · have hf := ie_ hf c6
      refine g_iload_n (q := 3) dX9_burden_18 rfl rfl ?_
      refine g_iconst (v := 0) dX9_burden_19 kI_0 ?_
      refine g_iconst (v := 2) dX9_burden_20 kI_2 ?_
      obtain ⟨r7, q8, hf⟩ := cbR_ hf
      refine g_cS (As := [.int a3, .int 0, .int 2]) dX9_burden_21 (tX9_in E m a3 0 2 q8) gyX9_in giX9_in mX9_148 (⟨rfl, rfl, Nat.le_of_ble_eq_true rfl, Nat.le_of_ble_eq_true rfl, Nat.le_of_ble_eq_true rfl, Nat.le_of_ble_eq_true rfl⟩) rfl rfl rfl (Nat.le_of_ble_eq_true rfl) ?_
      refine g_if_eq (tgt := 41) dX9_burden_24 (by decide) (fun c9 => ?_) (fun c9 => ?_)
      · have hf := it_ hf c9
        refine g_lv [] rfl ?_
        exact wX9_burden_b41 E z  m hf
      · have hf := ie_ hf c9
        refine g_aload_n (q := 0) dX9_burden_27 rfl rfl ?_
        refine g_iload_n (q := 1) dX9_burden_28 rfl rfl ?_
        refine g_iload_n (q := 2) dX9_burden_29 rfl rfl ?_
        refine g_iload_n (q := 3) dX9_burden_30 rfl rfl ?_
        obtain ⟨r10, m12, q11, hf⟩ := cbE_ hf
        refine g_cV (As := [.int a1, .int a2, .int a3]) dX9_burden_31 (tX9_burdenOf E m a1 a2 a3 q11) gyX9_burdenOf giX9_burdenOf gsX9_burdenOf mX9_364 (⟨rfl, rfl, Nat.le_of_ble_eq_true rfl, Nat.le_of_ble_eq_true rfl, Nat.le_of_ble_eq_true rfl, Nat.le_of_ble_eq_true rfl⟩) rfl (obX9 E m) rfl rfl rfl (Nat.le_of_ble_eq_true rfl) ?_
        refine g_ldc_w dX9_burden_34 cX9_367 ?_
        refine g_iadd dX9_burden_37 ?_
        refine g_goto (tgt := 43) dX9_burden_38 (by decide) ?_
        refine g_lv [] rfl ?_
        exact wX9_burden_b43 E z  (r10 + (100000 : Int32)) m12 hf
  · have hf := ie_ hf (not_not_intro c3)
    refine g_bipush (v := (-2)) dX9_burden_8 kB_m2 ?_
    exact g_ret dX9_burden_10 rfl rfl (Option.some.inj hf).symm
theorem tX9_burden (E : pEv) (m : pMem) (a1 : Int32) (a2 : Int32) (a3 : Int32) {z : Int32 × pMem} (hf : sX9_burden a1 a2 a3 m = some z) : gCn E yX9_burden kX9_burden [.ref (eA E 9), .int a1, .int a2, .int a3] m z := gCn_of (by decide +kernel) rfl rfl rfl (Nat.le_of_ble_eq_true rfl) rfl (wX9_burden_b0 E z a1 a2 a3 m  hf)
theorem wX9_isLate_b67 (E : pEv) (z : Int32) (k40 : Int32 → Int32 → Int32 → pMem → (Option Int32)) (ih40 : ∀ (l1 : Int32) (l2 : Int32) (l3 : Int32)  (m : pMem), k40 l1 l2 l3 m = some z → gM E kX9_isLate (z, m) 40 [(0, .ref (eA E 9)), (1, .int l1), (2, .int l2), (3, .int l3)] [] m) (l1 : Int32) (l3 : Int32) (t0 : Int32) (m : pMem) (hf : sX9_isLate_b67 k40 l1 l3 t0 m = some z) : gM E kX9_isLate (z, m) 67 [(0, .ref (eA E 9)), (1, .int l1), (3, .int l3)] [.int t0] m := by
  unfold sX9_isLate_b67 at hf
  refine g_istore_n dX9_isLate_67 rfl (Nat.le_of_ble_eq_true rfl) rfl ?_
  refine g_iinc (q := 3) (v := l3 + 1) dX9_isLate_68 rfl (by rw [kI_1]) (Nat.le_of_ble_eq_true rfl) rfl ?_
  refine g_goto (tgt := 40) dX9_isLate_71 (by decide) ?_
  refine g_lv [2, 3, 1, 0] rfl ?_
  exact ih40 l1 t0 (l3 + 1) m hf
theorem wX9_isLate_b66 (E : pEv) (z : Int32) (k40 : Int32 → Int32 → Int32 → pMem → (Option Int32)) (ih40 : ∀ (l1 : Int32) (l2 : Int32) (l3 : Int32)  (m : pMem), k40 l1 l2 l3 m = some z → gM E kX9_isLate (z, m) 40 [(0, .ref (eA E 9)), (1, .int l1), (2, .int l2), (3, .int l3)] [] m) (l1 : Int32) (l3 : Int32) (m : pMem) (hf : sX9_isLate_b66 k40 l1 l3 m = some z) : gM E kX9_isLate (z, m) 66 [(0, .ref (eA E 9)), (1, .int l1), (3, .int l3)] [] m := by
  unfold sX9_isLate_b66 at hf
  refine g_iconst (v := 0) dX9_isLate_66 kI_0 ?_
  exact wX9_isLate_b67 E z k40 ih40 l1 l3 0 m hf
theorem wX9_isLate_b40 (E : pEv) (z : Int32) (k40 : Int32 → Int32 → Int32 → pMem → (Option Int32)) (ih40 : ∀ (l1 : Int32) (l2 : Int32) (l3 : Int32)  (m : pMem), k40 l1 l2 l3 m = some z → gM E kX9_isLate (z, m) 40 [(0, .ref (eA E 9)), (1, .int l1), (2, .int l2), (3, .int l3)] [] m) (l1 : Int32) (l2 : Int32) (l3 : Int32) (m : pMem) (hf : sX9_isLate_b40 k40 l1 l2 l3 m = some z) : gM E kX9_isLate (z, m) 40 [(0, .ref (eA E 9)), (1, .int l1), (2, .int l2), (3, .int l3)] [] m := by
  unfold sX9_isLate_b40 at hf
  refine g_iload_n (q := 3) dX9_isLate_40 rfl rfl ?_
  refine g_aload_n (q := 0) dX9_isLate_41 rfl rfl ?_
  refine g_get dX9_isLate_42 fX9_162 (obX9 E m) (gvX9_46 E m) ?_
  refine g_icmp_ge (tgt := 74) dX9_isLate_45 (by decide) (fun c5 => ?_) (fun c5 => ?_)
  · have hf := it_ hf c5
    refine g_iload_n (q := 2) dX9_isLate_74 rfl rfl ?_
    exact g_retz dX9_isLate_75 rfl (by rw [Option.some.inj hf])
  · have hf := ie_ hf c5
    refine g_iload_n (q := 2) dX9_isLate_48 rfl rfl ?_
    refine g_if_eq (tgt := 66) dX9_isLate_49 (by decide) (fun c6 => ?_) (fun c6 => ?_)
    · have hf := it_ hf c6
      refine g_lv [0, 1, 3] rfl ?_
      exact wX9_isLate_b66 E z k40 ih40 l1 l3 m hf
    · have hf := ie_ hf c6
      refine g_iload_n (q := 1) dX9_isLate_52 rfl rfl ?_
      refine g_aload_n (q := 0) dX9_isLate_53 rfl rfl ?_
      refine g_get dX9_isLate_54 fX9_117 (obX9 E m) (gvX9_50 E m) ?_
      refine g_iload_n (q := 3) dX9_isLate_57 rfl rfl ?_
      obtain ⟨h7, hf⟩ := gd_ hf
      refine g_iald dX9_isLate_58 ar_98 h7 ?_
      refine g_icmp_le (tgt := 66) dX9_isLate_59 (by decide) (fun c8 => ?_) (fun c8 => ?_)
      · have hf := it_ hf c8
        refine g_lv [0, 1, 3] rfl ?_
        exact wX9_isLate_b66 E z k40 ih40 l1 l3 m hf
      · have hf := ie_ hf c8
        refine g_iconst (v := 1) dX9_isLate_62 kI_1 ?_
        refine g_goto (tgt := 67) dX9_isLate_63 (by decide) ?_
        refine g_lv [0, 1, 3] rfl ?_
        exact wX9_isLate_b67 E z k40 ih40 l1 l3 1 m hf
theorem wX9_isLate_l40 (E : pEv) (z : Int32) : ∀ (n : Nat) (l1 : Int32) (l2 : Int32) (l3 : Int32) (m : pMem), sX9_isLate_l40 n l1 l2 l3 m = some z → gM E kX9_isLate (z, m) 40 [(0, .ref (eA E 9)), (1, .int l1), (2, .int l2), (3, .int l3)] [] m := by
  intro n
  induction n with
  | zero => intro l1 l2 l3 m  hf; cases (show (none : Option _) = some z from hf)
  | succ n ih => intro l1 l2 l3 m  hf; exact wX9_isLate_b40 E z  _  ih l1 l2 l3 m  hf
theorem wX9_isLate_b31 (E : pEv) (z : Int32) (k4 : Int32 → Int32 → Int32 → pMem → (Option Int32)) (ih4 : ∀ (l1 : Int32) (l2 : Int32) (l3 : Int32)  (m : pMem), k4 l1 l2 l3 m = some z → gM E kX9_isLate (z, m) 4 [(0, .ref (eA E 9)), (1, .int l1), (2, .int l2), (3, .int l3)] [] m) (l1 : Int32) (l3 : Int32) (t0 : Int32) (m : pMem) (hf : sX9_isLate_b31 k4 l1 l3 t0 m = some z) : gM E kX9_isLate (z, m) 31 [(0, .ref (eA E 9)), (1, .int l1), (3, .int l3)] [.int t0] m := by
  unfold sX9_isLate_b31 at hf
  refine g_istore_n dX9_isLate_31 rfl (Nat.le_of_ble_eq_true rfl) rfl ?_
  refine g_iinc (q := 3) (v := l3 + 1) dX9_isLate_32 rfl (by rw [kI_1]) (Nat.le_of_ble_eq_true rfl) rfl ?_
  refine g_goto (tgt := 4) dX9_isLate_35 (by decide) ?_
  refine g_lv [2, 3, 1, 0] rfl ?_
  exact ih4 l1 t0 (l3 + 1) m hf
theorem wX9_isLate_b30 (E : pEv) (z : Int32) (k4 : Int32 → Int32 → Int32 → pMem → (Option Int32)) (ih4 : ∀ (l1 : Int32) (l2 : Int32) (l3 : Int32)  (m : pMem), k4 l1 l2 l3 m = some z → gM E kX9_isLate (z, m) 4 [(0, .ref (eA E 9)), (1, .int l1), (2, .int l2), (3, .int l3)] [] m) (l1 : Int32) (l3 : Int32) (m : pMem) (hf : sX9_isLate_b30 k4 l1 l3 m = some z) : gM E kX9_isLate (z, m) 30 [(0, .ref (eA E 9)), (1, .int l1), (3, .int l3)] [] m := by
  unfold sX9_isLate_b30 at hf
  refine g_iconst (v := 0) dX9_isLate_30 kI_0 ?_
  exact wX9_isLate_b31 E z k4 ih4 l1 l3 0 m hf
theorem wX9_isLate_b4 (E : pEv) (z : Int32) (k4 : Int32 → Int32 → Int32 → pMem → (Option Int32)) (ih4 : ∀ (l1 : Int32) (l2 : Int32) (l3 : Int32)  (m : pMem), k4 l1 l2 l3 m = some z → gM E kX9_isLate (z, m) 4 [(0, .ref (eA E 9)), (1, .int l1), (2, .int l2), (3, .int l3)] [] m) (l1 : Int32) (l2 : Int32) (l3 : Int32) (m : pMem) (hf : sX9_isLate_b4 k4 l1 l2 l3 m = some z) : gM E kX9_isLate (z, m) 4 [(0, .ref (eA E 9)), (1, .int l1), (2, .int l2), (3, .int l3)] [] m := by
  unfold sX9_isLate_b4 at hf
  refine g_iload_n (q := 3) dX9_isLate_4 rfl rfl ?_
  refine g_aload_n (q := 0) dX9_isLate_5 rfl rfl ?_
  refine g_get dX9_isLate_6 fX9_159 (obX9 E m) (gvX9_26 E m) ?_
  refine g_icmp_ge (tgt := 38) dX9_isLate_9 (by decide) (fun c1 => ?_) (fun c1 => ?_)
  · have hf := it_ hf c1
    refine g_iconst (v := 0) dX9_isLate_38 kI_0 ?_
    refine g_istore_n dX9_isLate_39 rfl (Nat.le_of_ble_eq_true rfl) rfl ?_
    refine g_lv [1, 2, 3, 0] rfl ?_
    exact wX9_isLate_l40 E z  5000 l1 l2 0 m hf
  · have hf := ie_ hf c1
    refine g_iload_n (q := 2) dX9_isLate_12 rfl rfl ?_
    refine g_if_eq (tgt := 30) dX9_isLate_13 (by decide) (fun c2 => ?_) (fun c2 => ?_)
    · have hf := it_ hf c2
      refine g_lv [0, 1, 3] rfl ?_
      exact wX9_isLate_b30 E z k4 ih4 l1 l3 m hf
    · have hf := ie_ hf c2
      refine g_iload_n (q := 1) dX9_isLate_16 rfl rfl ?_
      refine g_aload_n (q := 0) dX9_isLate_17 rfl rfl ?_
      refine g_get dX9_isLate_18 fX9_71 (obX9 E m) (gvX9_31 E m) ?_
      refine g_iload_n (q := 3) dX9_isLate_21 rfl rfl ?_
      obtain ⟨h3, hf⟩ := gd_ hf
      refine g_iald dX9_isLate_22 ar_83 h3 ?_
      refine g_icmp_le (tgt := 30) dX9_isLate_23 (by decide) (fun c4 => ?_) (fun c4 => ?_)
      · have hf := it_ hf c4
        refine g_lv [0, 1, 3] rfl ?_
        exact wX9_isLate_b30 E z k4 ih4 l1 l3 m hf
      · have hf := ie_ hf c4
        refine g_iconst (v := 1) dX9_isLate_26 kI_1 ?_
        refine g_goto (tgt := 31) dX9_isLate_27 (by decide) ?_
        refine g_lv [0, 1, 3] rfl ?_
        exact wX9_isLate_b31 E z k4 ih4 l1 l3 1 m hf
theorem wX9_isLate_l4 (E : pEv) (z : Int32) : ∀ (n : Nat) (l1 : Int32) (l2 : Int32) (l3 : Int32) (m : pMem), sX9_isLate_l4 n l1 l2 l3 m = some z → gM E kX9_isLate (z, m) 4 [(0, .ref (eA E 9)), (1, .int l1), (2, .int l2), (3, .int l3)] [] m := by
  intro n
  induction n with
  | zero => intro l1 l2 l3 m  hf; cases (show (none : Option _) = some z from hf)
  | succ n ih => intro l1 l2 l3 m  hf; exact wX9_isLate_b4 E z  _  ih l1 l2 l3 m  hf
theorem wX9_isLate_b0 (E : pEv) (z : Int32) (a1 : Int32) (m : pMem) (hf : sX9_isLate a1 m = some z) : gM E kX9_isLate (z, m) 0 [(0, .ref (eA E 9)), (1, .int a1)] [] m := by
  unfold sX9_isLate at hf
  refine g_iconst (v := 1) dX9_isLate_0 kI_1 ?_
  refine g_istore_n dX9_isLate_1 rfl (Nat.le_of_ble_eq_true rfl) rfl ?_
  refine g_iconst (v := 0) dX9_isLate_2 kI_0 ?_
  refine g_istore_n dX9_isLate_3 rfl (Nat.le_of_ble_eq_true rfl) rfl ?_
  refine g_lv [2, 3, 1, 0] rfl ?_
  exact wX9_isLate_l4 E z  5000 a1 1 0 m hf
theorem tX9_isLate (E : pEv) (m : pMem) (a1 : Int32) {z : Int32} (hf : sX9_isLate a1 m = some z) : gCn E yX9_isLate kX9_isLate [.ref (eA E 9), .int a1] m (z, m) := gCn_of (by decide +kernel) rfl rfl rfl (Nat.le_of_ble_eq_true rfl) rfl (wX9_isLate_b0 E z a1 m  hf)
theorem wX9_isSome_b32 (E : pEv) (z : Int32) (t0 : Int32) (m : pMem) (hf : sX9_isSome_b32 t0 m = some z) : gM E kX9_isSome (z, m) 32 [] [.int t0] m := by
  unfold sX9_isSome_b32 at hf
  exact g_retz dX9_isSome_32 rfl (by rw [Option.some.inj hf])
theorem wX9_isSome_b31 (E : pEv) (z : Int32) (m : pMem) (hf : sX9_isSome_b31  m = some z) : gM E kX9_isSome (z, m) 31 [] [] m := by
  unfold sX9_isSome_b31 at hf
  refine g_iconst (v := 0) dX9_isSome_31 kI_0 ?_
  exact wX9_isSome_b32 E z  0 m hf
theorem wX9_isSome_b0 (E : pEv) (z : Int32) (a1 : Int32) (a2 : Int32) (m : pMem) (hf : sX9_isSome a1 a2 m = some z) : gM E kX9_isSome (z, m) 0 [(0, .ref (eA E 9)), (1, .int a1), (2, .int a2)] [] m := by
  unfold sX9_isSome at hf
  refine g_aload_n (q := 0) dX9_isSome_0 rfl rfl ?_
  refine g_iload_n (q := 2) dX9_isSome_1 rfl rfl ?_
  refine g_aload_n (q := 0) dX9_isSome_2 rfl rfl ?_
  refine g_get dX9_isSome_3 fX9_152 (obX9 E m) (gvX9_6 E m) ?_
  obtain ⟨r1, q2, hf⟩ := cbR_ hf
  refine g_cV (As := [.int a2, .int (m.1 9 6)]) dX9_isSome_6 (tX9_groundsOf E m a2 (m.1 9 6) q2) gyX9_groundsOf giX9_groundsOf gsX9_groundsOf mX9_155 (⟨rfl, rfl, Nat.le_of_ble_eq_true rfl, Nat.le_of_ble_eq_true rfl, Nat.le_of_ble_eq_true rfl, Nat.le_of_ble_eq_true rfl⟩) rfl (obX9 E m) rfl rfl rfl (Nat.le_of_ble_eq_true rfl) ?_
  refine g_istore_n dX9_isSome_9 rfl (Nat.le_of_ble_eq_true rfl) rfl ?_
  refine g_iload_n (q := 2) dX9_isSome_10 rfl rfl ?_
  refine g_if_le (tgt := 31) dX9_isSome_11 (by decide) (fun c3 => ?_) (fun c3 => ?_)
  · have hf := it_ hf c3
    refine g_lv [] rfl ?_
    exact wX9_isSome_b31 E z  m hf
  · have hf := ie_ hf c3
    refine g_iload_n (q := 2) dX9_isSome_14 rfl rfl ?_
    refine g_iload_n (q := 0) dX9_isSome_15 rfl rfl ?_
    refine g_iconst (v := (-1)) dX9_isSome_16 kI_m1 ?_
    refine g_ixor dX9_isSome_17 ?_
    refine g_iand dX9_isSome_18 ?_
    refine g_if_ne (tgt := 31) dX9_isSome_19 (by decide) (fun c4 => ?_) (fun c4 => ?_)
    · have hf := it_ hf c4
      refine g_lv [] rfl ?_
      exact wX9_isSome_b31 E z  m hf
    · have hf := ie_ hf (not_not_intro c4)
      refine g_iload_n (q := 2) dX9_isSome_22 rfl rfl ?_
      refine g_iload_n (q := 0) dX9_isSome_23 rfl rfl ?_
      refine g_icmp_eq (tgt := 31) dX9_isSome_24 (by decide) (fun c5 => ?_) (fun c5 => ?_)
      · have hf := it_ hf c5
        refine g_lv [] rfl ?_
        exact wX9_isSome_b31 E z  m hf
      · have hf := ie_ hf c5
        refine g_iconst (v := 1) dX9_isSome_27 kI_1 ?_
        refine g_goto (tgt := 32) dX9_isSome_28 (by decide) ?_
        refine g_lv [] rfl ?_
        exact wX9_isSome_b32 E z  1 m hf
theorem tX9_isSome (E : pEv) (m : pMem) (a1 : Int32) (a2 : Int32) {z : Int32} (hf : sX9_isSome a1 a2 m = some z) : gCn E yX9_isSome kX9_isSome [.ref (eA E 9), .int a1, .int a2] m (z, m) := gCn_of (by decide +kernel) rfl rfl rfl (Nat.le_of_ble_eq_true rfl) rfl (wX9_isSome_b0 E z a1 a2 m  hf)
theorem wX9_doLast_b280 (E : pEv) (z : Int32 × pMem) (m : pMem) (hf : sX9_doLast_b280  m = some z) : gM E kX9_doLast z 280 [] [] m := by
  unfold sX9_doLast_b280 at hf
  exact g_retv dX9_doLast_280 rfl (by rw [← Option.some.inj hf])
theorem wX9_doLast_b159 (E : pEv) (z : Int32 × pMem) (k20 : Int32 → Int32 → Int32 → Int32 → Int32 → Int32 → Int32 → pMem → gO) (ih20 : ∀ (l1 : Int32) (l2 : Int32) (l3 : Int32) (l4 : Int32) (l5 : Int32) (l6 : Int32) (l7 : Int32)  (m : pMem), k20 l1 l2 l3 l4 l5 l6 l7 m = some z → gM E kX9_doLast z 20 [(0, .ref (eA E 9)), (1, .int l1), (2, .int l2), (3, .int l3), (4, .int l4), (5, .int l5), (6, .int l6), (7, .int l7)] [] m) (l1 : Int32) (l2 : Int32) (l3 : Int32) (l4 : Int32) (l5 : Int32) (l6 : Int32) (l7 : Int32) (l10 : Int32) (m : pMem) (hf : sX9_doLast_b159 k20 l1 l2 l3 l4 l5 l6 l7 l10 m = some z) : gM E kX9_doLast z 159 [(0, .ref (eA E 9)), (1, .int l1), (2, .int l2), (3, .int l3), (4, .int l4), (5, .int l5), (6, .int l6), (7, .int l7), (10, .int l10)] [] m := by
  unfold sX9_doLast_b159 at hf
  refine g_aload_n (q := 0) dX9_doLast_159 rfl rfl ?_
  refine g_get dX9_doLast_160 fX9_44 (obX9 E m) (gvX9_13 E m) ?_
  refine g_bipush (v := 8) dX9_doLast_163 kB_8 ?_
  refine g_iload (q := 5) dX9_doLast_165 rfl ?_
  refine g_imul dX9_doLast_167 ?_
  refine g_iload (q := 7) dX9_doLast_168 rfl ?_
  refine g_iadd dX9_doLast_170 ?_
  refine g_iload (q := 8) dX9_doLast_171 rfl ?_
  obtain ⟨h33, hf⟩ := gd_ hf
  refine g_iast dX9_doLast_173 ar_74 h33 ?_
  refine nmG hf (fun m34 hf => ?_)
  refine g_iinc (q := 7) (v := l7 + 1) dX9_doLast_174 rfl (by rw [kI_1]) (Nat.le_of_ble_eq_true rfl) rfl ?_
  refine g_goto (tgt := 20) dX9_doLast_177 (by decide) ?_
  refine g_lv [1, 2, 3, 4, 5, 6, 7, 0] rfl ?_
  exact ih20 l1 l2 l3 l4 l5 l6 (l7 + 1) m34 hf
theorem wX9_doLast_b130 (E : pEv) (z : Int32 × pMem) (k20 : Int32 → Int32 → Int32 → Int32 → Int32 → Int32 → Int32 → pMem → gO) (ih20 : ∀ (l1 : Int32) (l2 : Int32) (l3 : Int32) (l4 : Int32) (l5 : Int32) (l6 : Int32) (l7 : Int32)  (m : pMem), k20 l1 l2 l3 l4 l5 l6 l7 m = some z → gM E kX9_doLast z 20 [(0, .ref (eA E 9)), (1, .int l1), (2, .int l2), (3, .int l3), (4, .int l4), (5, .int l5), (6, .int l6), (7, .int l7)] [] m) (l1 : Int32) (l2 : Int32) (l3 : Int32) (l4 : Int32) (l5 : Int32) (l6 : Int32) (l7 : Int32) (t0 : Int32) (m : pMem) (hf : sX9_doLast_b130 k20 l1 l2 l3 l4 l5 l6 l7 t0 m = some z) : gM E kX9_doLast z 130 [(0, .ref (eA E 9)), (1, .int l1), (2, .int l2), (3, .int l3), (4, .int l4), (5, .int l5), (6, .int l6), (7, .int l7)] [.int t0] m := by
  unfold sX9_doLast_b130 at hf
  refine g_istore dX9_doLast_130 (Nat.le_of_ble_eq_true rfl) rfl ?_
  refine g_goto (tgt := 159) dX9_doLast_132 (by decide) ?_
  refine g_lv [1, 2, 3, 4, 5, 6, 7, 8, 0] rfl ?_
  exact wX9_doLast_b159 E z k20 ih20 l1 l2 l3 l4 l5 l6 l7 t0 m hf
theorem wX9_doLast_b108 (E : pEv) (z : Int32 × pMem) (k20 : Int32 → Int32 → Int32 → Int32 → Int32 → Int32 → Int32 → pMem → gO) (ih20 : ∀ (l1 : Int32) (l2 : Int32) (l3 : Int32) (l4 : Int32) (l5 : Int32) (l6 : Int32) (l7 : Int32)  (m : pMem), k20 l1 l2 l3 l4 l5 l6 l7 m = some z → gM E kX9_doLast z 20 [(0, .ref (eA E 9)), (1, .int l1), (2, .int l2), (3, .int l3), (4, .int l4), (5, .int l5), (6, .int l6), (7, .int l7)] [] m) (l1 : Int32) (l2 : Int32) (l3 : Int32) (l4 : Int32) (l5 : Int32) (l6 : Int32) (l7 : Int32) (t0 : Int32) (m : pMem) (hf : sX9_doLast_b108 k20 l1 l2 l3 l4 l5 l6 l7 t0 m = some z) : gM E kX9_doLast z 108 [(0, .ref (eA E 9)), (1, .int l1), (2, .int l2), (3, .int l3), (4, .int l4), (5, .int l5), (6, .int l6), (7, .int l7)] [.int t0] m := by
  unfold sX9_doLast_b108 at hf
  refine g_istore dX9_doLast_108 (Nat.le_of_ble_eq_true rfl) rfl ?_
  refine g_goto (tgt := 159) dX9_doLast_110 (by decide) ?_
  refine g_lv [1, 2, 3, 4, 5, 6, 7, 8, 0] rfl ?_
  exact wX9_doLast_b159 E z k20 ih20 l1 l2 l3 l4 l5 l6 l7 t0 m hf
theorem wX9_doLast_b75 (E : pEv) (z : Int32 × pMem) (k20 : Int32 → Int32 → Int32 → Int32 → Int32 → Int32 → Int32 → pMem → gO) (ih20 : ∀ (l1 : Int32) (l2 : Int32) (l3 : Int32) (l4 : Int32) (l5 : Int32) (l6 : Int32) (l7 : Int32)  (m : pMem), k20 l1 l2 l3 l4 l5 l6 l7 m = some z → gM E kX9_doLast z 20 [(0, .ref (eA E 9)), (1, .int l1), (2, .int l2), (3, .int l3), (4, .int l4), (5, .int l5), (6, .int l6), (7, .int l7)] [] m) (l1 : Int32) (l2 : Int32) (l3 : Int32) (l4 : Int32) (l5 : Int32) (l6 : Int32) (l7 : Int32) (l8 : Int32) (l9 : Int32) (m : pMem) (hf : sX9_doLast_b75 k20 l1 l2 l3 l4 l5 l6 l7 l8 l9 m = some z) : gM E kX9_doLast z 75 [(0, .ref (eA E 9)), (1, .int l1), (2, .int l2), (3, .int l3), (4, .int l4), (5, .int l5), (6, .int l6), (7, .int l7), (8, .int l8), (9, .int l9)] [] m := by
  unfold sX9_doLast_b75 at hf
  refine g_iload (q := 8) dX9_doLast_75 rfl ?_
  refine g_iload_n (q := 2) dX9_doLast_77 rfl rfl ?_
  refine g_icmp_eq (tgt := 86) dX9_doLast_78 (by decide) (fun c30 => ?_) (fun c30 => ?_)
  · have hf := it_ hf c30
    refine g_iload (q := 9) dX9_doLast_86 rfl ?_
    refine g_if_eq (tgt := 96) dX9_doLast_88 (by decide) (fun c31 => ?_) (fun c31 => ?_)
    · have hf := it_ hf c31
      refine g_iload_n (q := 1) dX9_doLast_96 rfl rfl ?_
      refine g_if_ne (tgt := 104) dX9_doLast_97 (by decide) (fun c32 => ?_) (fun c32 => ?_)
      · have hf := it_ hf c32
        refine g_iload (q := 6) dX9_doLast_104 rfl ?_
        refine g_iconst (v := 1) dX9_doLast_106 kI_1 ?_
        refine g_iadd dX9_doLast_107 ?_
        refine g_lv [0, 1, 2, 3, 4, 5, 6, 7] rfl ?_
        exact wX9_doLast_b108 E z k20 ih20 l1 l2 l3 l4 l5 l6 l7 (l6 + (1 : Int32)) m hf
      · have hf := ie_ hf (not_not_intro c32)
        refine g_iload_n (q := 2) dX9_doLast_100 rfl rfl ?_
        refine g_goto (tgt := 108) dX9_doLast_101 (by decide) ?_
        refine g_lv [0, 1, 2, 3, 4, 5, 6, 7] rfl ?_
        exact wX9_doLast_b108 E z k20 ih20 l1 l2 l3 l4 l5 l6 l7 l2 m hf
    · have hf := ie_ hf c31
      refine g_iload (q := 6) dX9_doLast_91 rfl ?_
      refine g_goto (tgt := 108) dX9_doLast_93 (by decide) ?_
      refine g_lv [0, 1, 2, 3, 4, 5, 6, 7] rfl ?_
      exact wX9_doLast_b108 E z k20 ih20 l1 l2 l3 l4 l5 l6 l7 l6 m hf
  · have hf := ie_ hf c30
    refine g_iload (q := 8) dX9_doLast_81 rfl ?_
    refine g_goto (tgt := 108) dX9_doLast_83 (by decide) ?_
    refine g_lv [0, 1, 2, 3, 4, 5, 6, 7] rfl ?_
    exact wX9_doLast_b108 E z k20 ih20 l1 l2 l3 l4 l5 l6 l7 l8 m hf
theorem wX9_doLast_b157 (E : pEv) (z : Int32 × pMem) (k20 : Int32 → Int32 → Int32 → Int32 → Int32 → Int32 → Int32 → pMem → gO) (ih20 : ∀ (l1 : Int32) (l2 : Int32) (l3 : Int32) (l4 : Int32) (l5 : Int32) (l6 : Int32) (l7 : Int32)  (m : pMem), k20 l1 l2 l3 l4 l5 l6 l7 m = some z → gM E kX9_doLast z 20 [(0, .ref (eA E 9)), (1, .int l1), (2, .int l2), (3, .int l3), (4, .int l4), (5, .int l5), (6, .int l6), (7, .int l7)] [] m) (l1 : Int32) (l2 : Int32) (l3 : Int32) (l4 : Int32) (l5 : Int32) (l6 : Int32) (l7 : Int32) (t0 : Int32) (m : pMem) (hf : sX9_doLast_b157 k20 l1 l2 l3 l4 l5 l6 l7 t0 m = some z) : gM E kX9_doLast z 157 [(0, .ref (eA E 9)), (1, .int l1), (2, .int l2), (3, .int l3), (4, .int l4), (5, .int l5), (6, .int l6), (7, .int l7)] [.int t0] m := by
  unfold sX9_doLast_b157 at hf
  refine g_istore dX9_doLast_157 (Nat.le_of_ble_eq_true rfl) rfl ?_
  refine g_lv [1, 2, 3, 4, 5, 6, 7, 8, 0] rfl ?_
  exact wX9_doLast_b159 E z k20 ih20 l1 l2 l3 l4 l5 l6 l7 t0 m hf
theorem wX9_doLast_b155 (E : pEv) (z : Int32 × pMem) (k20 : Int32 → Int32 → Int32 → Int32 → Int32 → Int32 → Int32 → pMem → gO) (ih20 : ∀ (l1 : Int32) (l2 : Int32) (l3 : Int32) (l4 : Int32) (l5 : Int32) (l6 : Int32) (l7 : Int32)  (m : pMem), k20 l1 l2 l3 l4 l5 l6 l7 m = some z → gM E kX9_doLast z 20 [(0, .ref (eA E 9)), (1, .int l1), (2, .int l2), (3, .int l3), (4, .int l4), (5, .int l5), (6, .int l6), (7, .int l7)] [] m) (l1 : Int32) (l2 : Int32) (l3 : Int32) (l4 : Int32) (l5 : Int32) (l6 : Int32) (l7 : Int32) (l8 : Int32) (m : pMem) (hf : sX9_doLast_b155 k20 l1 l2 l3 l4 l5 l6 l7 l8 m = some z) : gM E kX9_doLast z 155 [(0, .ref (eA E 9)), (1, .int l1), (2, .int l2), (3, .int l3), (4, .int l4), (5, .int l5), (6, .int l6), (7, .int l7), (8, .int l8)] [] m := by
  unfold sX9_doLast_b155 at hf
  refine g_iload (q := 8) dX9_doLast_155 rfl ?_
  refine g_lv [0, 1, 2, 3, 4, 5, 6, 7] rfl ?_
  exact wX9_doLast_b157 E z k20 ih20 l1 l2 l3 l4 l5 l6 l7 l8 m hf
theorem wX9_doLast_b60 (E : pEv) (z : Int32 × pMem) (k20 : Int32 → Int32 → Int32 → Int32 → Int32 → Int32 → Int32 → pMem → gO) (ih20 : ∀ (l1 : Int32) (l2 : Int32) (l3 : Int32) (l4 : Int32) (l5 : Int32) (l6 : Int32) (l7 : Int32)  (m : pMem), k20 l1 l2 l3 l4 l5 l6 l7 m = some z → gM E kX9_doLast z 20 [(0, .ref (eA E 9)), (1, .int l1), (2, .int l2), (3, .int l3), (4, .int l4), (5, .int l5), (6, .int l6), (7, .int l7)] [] m) (l1 : Int32) (l2 : Int32) (l3 : Int32) (l4 : Int32) (l5 : Int32) (l6 : Int32) (l7 : Int32) (l8 : Int32) (t0 : Int32) (m : pMem) (hf : sX9_doLast_b60 k20 l1 l2 l3 l4 l5 l6 l7 l8 t0 m = some z) : gM E kX9_doLast z 60 [(0, .ref (eA E 9)), (1, .int l1), (2, .int l2), (3, .int l3), (4, .int l4), (5, .int l5), (6, .int l6), (7, .int l7), (8, .int l8)] [.int t0] m := by
  unfold sX9_doLast_b60 at hf
  refine g_istore dX9_doLast_60 (Nat.le_of_ble_eq_true rfl) rfl ?_
  refine g_iload (q := 9) dX9_doLast_62 rfl ?_
  refine g_istore dX9_doLast_64 (Nat.le_of_ble_eq_true rfl) rfl ?_
  refine g_iload_n (q := 3) dX9_doLast_66 rfl rfl ?_
  refine g_if_eq (tgt := 75) dX9_doLast_67 (by decide) (fun c23 => ?_) (fun c23 => ?_)
  · have hf := it_ hf c23
    refine g_lv [2, 3, 4, 5, 6, 7, 8, 9, 10, 1] rfl ?_
    exact wX9_doLast_b75 E z k20 ih20 l1 l2 l3 l4 l5 l6 l7 l8 t0 m hf
  · have hf := ie_ hf c23
    refine g_iload_n (q := 3) dX9_doLast_70 rfl rfl ?_
    refine g_iconst (v := 1) dX9_doLast_71 kI_1 ?_
    refine g_icmp_ne (tgt := 113) dX9_doLast_72 (by decide) (fun c24 => ?_) (fun c24 => ?_)
    · have hf := it_ hf c24
      refine g_iload_n (q := 3) dX9_doLast_113 rfl rfl ?_
      refine g_iconst (v := 2) dX9_doLast_114 kI_2 ?_
      refine g_icmp_ne (tgt := 135) dX9_doLast_115 (by decide) (fun c25 => ?_) (fun c25 => ?_)
      · have hf := it_ hf c25
        refine g_iload_n (q := 3) dX9_doLast_135 rfl rfl ?_
        refine g_iconst (v := 3) dX9_doLast_136 kI_3 ?_
        refine g_icmp_ne (tgt := 159) dX9_doLast_137 (by decide) (fun c26 => ?_) (fun c26 => ?_)
        · have hf := it_ hf c26
          refine g_lv [2, 3, 4, 5, 6, 7, 8, 9, 0] rfl ?_
          exact wX9_doLast_b159 E z k20 ih20 l1 l2 l3 l4 l5 l6 l7 l8 m hf
        · have hf := ie_ hf (not_not_intro c26)
          refine g_iload (q := 10) dX9_doLast_140 rfl ?_
          refine g_iload_n (q := 4) dX9_doLast_142 rfl rfl ?_
          refine g_icmp_ne (tgt := 155) dX9_doLast_143 (by decide) (fun c27 => ?_) (fun c27 => ?_)
          · have hf := it_ hf c27
            refine g_lv [2, 3, 4, 5, 6, 7, 8, 9, 10] rfl ?_
            exact wX9_doLast_b155 E z k20 ih20 l1 l2 l3 l4 l5 l6 l7 l8 m hf
          · have hf := ie_ hf (not_not_intro c27)
            refine g_iload (q := 1) dX9_doLast_146 rfl ?_
            refine g_if_eq (tgt := 155) dX9_doLast_148 (by decide) (fun c28 => ?_) (fun c28 => ?_)
            · have hf := it_ hf c28
              refine g_lv [2, 3, 4, 5, 6, 7, 8, 9, 10] rfl ?_
              exact wX9_doLast_b155 E z k20 ih20 l1 l2 l3 l4 l5 l6 l7 l8 m hf
            · have hf := ie_ hf c28
              refine g_iload_n (q := 5) dX9_doLast_151 rfl rfl ?_
              refine g_goto (tgt := 157) dX9_doLast_152 (by decide) ?_
              refine g_lv [2, 3, 4, 5, 6, 7, 8, 9] rfl ?_
              exact wX9_doLast_b157 E z k20 ih20 l1 l2 l3 l4 l5 l6 l7 l3 m hf
      · have hf := ie_ hf (not_not_intro c25)
        refine g_iload (q := 10) dX9_doLast_118 rfl ?_
        refine g_iload_n (q := 5) dX9_doLast_120 rfl rfl ?_
        refine g_icmp_ne (tgt := 128) dX9_doLast_121 (by decide) (fun c29 => ?_) (fun c29 => ?_)
        · have hf := it_ hf c29
          refine g_iload (q := 10) dX9_doLast_128 rfl ?_
          refine g_lv [2, 3, 4, 5, 6, 7, 8, 9] rfl ?_
          exact wX9_doLast_b130 E z k20 ih20 l1 l2 l3 l4 l5 l6 l7 l8 m hf
        · have hf := ie_ hf (not_not_intro c29)
          refine g_iload_n (q := 4) dX9_doLast_124 rfl rfl ?_
          refine g_goto (tgt := 130) dX9_doLast_125 (by decide) ?_
          refine g_lv [2, 3, 4, 5, 6, 7, 8, 9] rfl ?_
          exact wX9_doLast_b130 E z k20 ih20 l1 l2 l3 l4 l5 l6 l7 l2 m hf
    · have hf := ie_ hf (not_not_intro c24)
      refine g_lv [2, 3, 4, 5, 6, 7, 8, 9, 10, 1] rfl ?_
      exact wX9_doLast_b75 E z k20 ih20 l1 l2 l3 l4 l5 l6 l7 l8 t0 m hf
theorem wX9_doLast_b20 (E : pEv) (z : Int32 × pMem) (k20 : Int32 → Int32 → Int32 → Int32 → Int32 → Int32 → Int32 → pMem → gO) (ih20 : ∀ (l1 : Int32) (l2 : Int32) (l3 : Int32) (l4 : Int32) (l5 : Int32) (l6 : Int32) (l7 : Int32)  (m : pMem), k20 l1 l2 l3 l4 l5 l6 l7 m = some z → gM E kX9_doLast z 20 [(0, .ref (eA E 9)), (1, .int l1), (2, .int l2), (3, .int l3), (4, .int l4), (5, .int l5), (6, .int l6), (7, .int l7)] [] m) (l1 : Int32) (l2 : Int32) (l3 : Int32) (l4 : Int32) (l5 : Int32) (l6 : Int32) (l7 : Int32) (m : pMem) (hf : sX9_doLast_b20 k20 l1 l2 l3 l4 l5 l6 l7 m = some z) : gM E kX9_doLast z 20 [(0, .ref (eA E 9)), (1, .int l1), (2, .int l2), (3, .int l3), (4, .int l4), (5, .int l5), (6, .int l6), (7, .int l7)] [] m := by
  unfold sX9_doLast_b20 at hf
  refine g_iload (q := 7) dX9_doLast_20 rfl ?_
  refine g_bipush (v := 8) dX9_doLast_22 kB_8 ?_
  refine g_icmp_ge (tgt := 180) dX9_doLast_24 (by decide) (fun c4 => ?_) (fun c4 => ?_)
  · have hf := it_ hf c4
    refine g_aload_n (q := 0) dX9_doLast_180 rfl rfl ?_
    refine g_get dX9_doLast_181 fX9_47 (obX9 E m) (gvX9_14 E m) ?_
    refine g_iload (q := 5) dX9_doLast_184 rfl ?_
    refine g_aload_n (q := 0) dX9_doLast_186 rfl rfl ?_
    refine g_get dX9_doLast_187 fX9_47 (obX9 E m) (gvX9_14 E m) ?_
    refine g_iload (q := 5) dX9_doLast_190 rfl ?_
    refine g_iconst (v := 1) dX9_doLast_192 kI_1 ?_
    refine g_isub dX9_doLast_193 ?_
    obtain ⟨h5, hf⟩ := gd_ hf
    refine g_iald dX9_doLast_194 ar_75 h5 ?_
    obtain ⟨h6, hf⟩ := gd_ hf
    refine g_iast dX9_doLast_195 ar_75 h6 ?_
    refine nmG hf (fun m7 hf => ?_)
    refine g_iload_n (q := 1) dX9_doLast_196 rfl rfl ?_
    refine g_if_ne (tgt := 222) dX9_doLast_197 (by decide) (fun c8 => ?_) (fun c8 => ?_)
    · have hf := it_ hf c8
      refine g_iload_n (q := 1) dX9_doLast_222 rfl rfl ?_
      refine g_iconst (v := 1) dX9_doLast_223 kI_1 ?_
      refine g_icmp_ne (tgt := 255) dX9_doLast_224 (by decide) (fun c9 => ?_) (fun c9 => ?_)
      · have hf := it_ hf c9
        refine g_iload_n (q := 1) dX9_doLast_255 rfl rfl ?_
        refine g_iconst (v := 2) dX9_doLast_256 kI_2 ?_
        refine g_icmp_ne (tgt := 280) dX9_doLast_257 (by decide) (fun c10 => ?_) (fun c10 => ?_)
        · have hf := it_ hf c10
          refine g_lv [] rfl ?_
          exact wX9_doLast_b280 E z  m7 hf
        · have hf := ie_ hf (not_not_intro c10)
          refine g_aload_n (q := 0) dX9_doLast_260 rfl rfl ?_
          refine g_get dX9_doLast_261 fX9_47 (obX9 E m7) (gvX9_14 E m7) ?_
          refine g_iload (q := 5) dX9_doLast_264 rfl ?_
          refine g_aload_n (q := 0) dX9_doLast_266 rfl rfl ?_
          refine g_get dX9_doLast_267 fX9_47 (obX9 E m7) (gvX9_14 E m7) ?_
          refine g_iload (q := 5) dX9_doLast_270 rfl ?_
          obtain ⟨h11, hf⟩ := gd_ hf
          refine g_iald dX9_doLast_272 ar_75 h11 ?_
          refine g_iconst (v := 1) dX9_doLast_273 kI_1 ?_
          refine g_iload_n (q := 3) dX9_doLast_274 rfl rfl ?_
          refine g_ishl dX9_doLast_275 ?_
          refine g_iconst (v := (-1)) dX9_doLast_276 kI_m1 ?_
          refine g_ixor dX9_doLast_277 ?_
          refine g_iand dX9_doLast_278 ?_
          obtain ⟨h12, hf⟩ := gd_ hf
          refine g_iast dX9_doLast_279 ar_75 h12 ?_
          refine nmG hf (fun m13 hf => ?_)
          refine g_lv [] rfl ?_
          exact wX9_doLast_b280 E z  m13 hf
      · have hf := ie_ hf (not_not_intro c9)
        refine g_aload_n (q := 0) dX9_doLast_227 rfl rfl ?_
        refine g_get dX9_doLast_228 fX9_47 (obX9 E m7) (gvX9_14 E m7) ?_
        refine g_iload (q := 5) dX9_doLast_231 rfl ?_
        refine g_aload_n (q := 0) dX9_doLast_233 rfl rfl ?_
        refine g_get dX9_doLast_234 fX9_47 (obX9 E m7) (gvX9_14 E m7) ?_
        refine g_iload (q := 5) dX9_doLast_237 rfl ?_
        obtain ⟨h14, hf⟩ := gd_ hf
        refine g_iald dX9_doLast_239 ar_75 h14 ?_
        refine g_iconst (v := 1) dX9_doLast_240 kI_1 ?_
        refine g_iload_n (q := 2) dX9_doLast_241 rfl rfl ?_
        refine g_ishl dX9_doLast_242 ?_
        refine g_iconst (v := (-1)) dX9_doLast_243 kI_m1 ?_
        refine g_ixor dX9_doLast_244 ?_
        refine g_iand dX9_doLast_245 ?_
        refine g_iconst (v := 3) dX9_doLast_246 kI_3 ?_
        refine g_iload (q := 6) dX9_doLast_247 rfl ?_
        refine g_ishl dX9_doLast_249 ?_
        refine g_ior dX9_doLast_250 ?_
        obtain ⟨h15, hf⟩ := gd_ hf
        refine g_iast dX9_doLast_251 ar_75 h15 ?_
        refine nmG hf (fun m16 hf => ?_)
        refine g_goto (tgt := 280) dX9_doLast_252 (by decide) ?_
        refine g_lv [] rfl ?_
        exact wX9_doLast_b280 E z  m16 hf
    · have hf := ie_ hf (not_not_intro c8)
      refine g_aload_n (q := 0) dX9_doLast_200 rfl rfl ?_
      refine g_get dX9_doLast_201 fX9_47 (obX9 E m7) (gvX9_14 E m7) ?_
      refine g_iload (q := 5) dX9_doLast_204 rfl ?_
      refine g_aload_n (q := 0) dX9_doLast_206 rfl rfl ?_
      refine g_get dX9_doLast_207 fX9_47 (obX9 E m7) (gvX9_14 E m7) ?_
      refine g_iload (q := 5) dX9_doLast_210 rfl ?_
      obtain ⟨h17, hf⟩ := gd_ hf
      refine g_iald dX9_doLast_212 ar_75 h17 ?_
      refine g_iconst (v := 1) dX9_doLast_213 kI_1 ?_
      refine g_iload (q := 6) dX9_doLast_214 rfl ?_
      refine g_ishl dX9_doLast_216 ?_
      refine g_ior dX9_doLast_217 ?_
      obtain ⟨h18, hf⟩ := gd_ hf
      refine g_iast dX9_doLast_218 ar_75 h18 ?_
      refine nmG hf (fun m19 hf => ?_)
      refine g_goto (tgt := 280) dX9_doLast_219 (by decide) ?_
      refine g_lv [] rfl ?_
      exact wX9_doLast_b280 E z  m19 hf
  · have hf := ie_ hf c4
    refine g_aload_n (q := 0) dX9_doLast_27 rfl rfl ?_
    refine g_get dX9_doLast_28 fX9_44 (obX9 E m) (gvX9_13 E m) ?_
    refine g_bipush (v := 8) dX9_doLast_31 kB_8 ?_
    refine g_iload (q := 5) dX9_doLast_33 rfl ?_
    refine g_iconst (v := 1) dX9_doLast_35 kI_1 ?_
    refine g_isub dX9_doLast_36 ?_
    refine g_imul dX9_doLast_37 ?_
    refine g_iload (q := 7) dX9_doLast_38 rfl ?_
    refine g_iadd dX9_doLast_40 ?_
    obtain ⟨h20, hf⟩ := gd_ hf
    refine g_iald dX9_doLast_41 ar_74 h20 ?_
    refine nmI hf (fun x21 hf => ?_)
    refine g_istore dX9_doLast_42 (Nat.le_of_ble_eq_true rfl) rfl ?_
    refine g_iload (q := 5) dX9_doLast_44 rfl ?_
    refine g_iload (q := 8) dX9_doLast_46 rfl ?_
    refine g_ishr dX9_doLast_48 ?_
    refine g_iconst (v := 1) dX9_doLast_49 kI_1 ?_
    refine g_iand dX9_doLast_50 ?_
    refine g_iconst (v := 1) dX9_doLast_51 kI_1 ?_
    refine g_icmp_ne (tgt := 59) dX9_doLast_52 (by decide) (fun c22 => ?_) (fun c22 => ?_)
    · have hf := it_ hf c22
      refine g_iconst (v := 0) dX9_doLast_59 kI_0 ?_
      refine g_lv [1, 2, 3, 4, 5, 6, 7, 8, 0] rfl ?_
      exact wX9_doLast_b60 E z k20 ih20 l1 l2 l3 l4 l5 l6 l7 x21 0 m hf
    · have hf := ie_ hf (not_not_intro c22)
      refine g_iconst (v := 1) dX9_doLast_55 kI_1 ?_
      refine g_goto (tgt := 60) dX9_doLast_56 (by decide) ?_
      refine g_lv [1, 2, 3, 4, 5, 6, 7, 8, 0] rfl ?_
      exact wX9_doLast_b60 E z k20 ih20 l1 l2 l3 l4 l5 l6 l7 x21 1 m hf
theorem wX9_doLast_l20 (E : pEv) (z : Int32 × pMem) : ∀ (n : Nat) (l1 : Int32) (l2 : Int32) (l3 : Int32) (l4 : Int32) (l5 : Int32) (l6 : Int32) (l7 : Int32) (m : pMem), sX9_doLast_l20 n l1 l2 l3 l4 l5 l6 l7 m = some z → gM E kX9_doLast z 20 [(0, .ref (eA E 9)), (1, .int l1), (2, .int l2), (3, .int l3), (4, .int l4), (5, .int l5), (6, .int l6), (7, .int l7)] [] m := by
  intro n
  induction n with
  | zero => intro l1 l2 l3 l4 l5 l6 l7 m  hf; cases (show (none : Option _) = some z from hf)
  | succ n ih => intro l1 l2 l3 l4 l5 l6 l7 m  hf; exact wX9_doLast_b20 E z  _  ih l1 l2 l3 l4 l5 l6 l7 m  hf
theorem wX9_doLast_b0 (E : pEv) (z : Int32 × pMem) (a1 : Int32) (a2 : Int32) (a3 : Int32) (a4 : Int32) (m : pMem) (hf : sX9_doLast a1 a2 a3 a4 m = some z) : gM E kX9_doLast z 0 [(0, .ref (eA E 9)), (1, .int a1), (2, .int a2), (3, .int a3), (4, .int a4)] [] m := by
  unfold sX9_doLast at hf
  refine g_aload_n (q := 0) dX9_doLast_0 rfl rfl ?_
  refine g_get dX9_doLast_1 fX9_152 (obX9 E m) (gvX9_6 E m) ?_
  refine nmI hf (fun x1 hf => ?_)
  refine g_istore dX9_doLast_4 (Nat.le_of_ble_eq_true rfl) rfl ?_
  refine g_aload_n (q := 1) dX9_doLast_6 rfl rfl ?_
  refine g_get dX9_doLast_7 fX9_41 (obX9 E m) (gvX9_12 E m) ?_
  refine g_iload (q := 0) dX9_doLast_10 rfl ?_
  refine g_iconst (v := 1) dX9_doLast_12 kI_1 ?_
  refine g_isub dX9_doLast_13 ?_
  obtain ⟨h2, hf⟩ := gd_ hf
  refine g_iald dX9_doLast_14 ar_73 h2 ?_
  refine nmI hf (fun x3 hf => ?_)
  refine g_istore dX9_doLast_15 (Nat.le_of_ble_eq_true rfl) rfl ?_
  refine g_iconst (v := 0) dX9_doLast_17 kI_0 ?_
  refine g_istore dX9_doLast_18 (Nat.le_of_ble_eq_true rfl) rfl ?_
  refine g_lv [3, 4, 5, 6, 7, 2, 1, 0] rfl ?_
  exact wX9_doLast_l20 E z  5000 a1 a2 a3 a4 x1 x3 0 m hf
theorem tX9_doLast (E : pEv) (m : pMem) (a1 : Int32) (a2 : Int32) (a3 : Int32) (a4 : Int32) {z : Int32 × pMem} (hf : sX9_doLast a1 a2 a3 a4 m = some z) : gCn E yX9_doLast kX9_doLast [.ref (eA E 9), .int a1, .int a2, .int a3, .int a4] m z := gCn_of (by decide +kernel) rfl rfl rfl (Nat.le_of_ble_eq_true rfl) rfl (wX9_doLast_b0 E z a1 a2 a3 a4 m  hf)
