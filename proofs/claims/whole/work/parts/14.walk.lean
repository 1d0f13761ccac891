/-! walks (printed) -/
theorem wX5_append_b3 (E : pEv) (z : Int32 × pMem) (k3 : Int64 → Int32 → Int32 → pMem → gO) (ih3 : ∀ (l1 : Int64) (l3 : Int32) (l4 : Int32)  (m : pMem), k3 l1 l3 l4 m = some z → gM E kX5_append z 3 [(0, .ref (eA E 6)), (1, .long l1), (3, .int l3), (4, .int l4)] [] m) (l1 : Int64) (l3 : Int32) (l4 : Int32) (m : pMem) (hf : sX5_append_b3 k3 l1 l3 l4 m = some z) : gM E kX5_append z 3 [(0, .ref (eA E 6)), (1, .long l1), (3, .int l3), (4, .int l4)] [] m := by
  unfold sX5_append_b3 at hf
  refine g_iload (q := 3) dX5_append_3 rfl ?_
  refine g_iload_n (q := 2) dX5_append_5 rfl rfl ?_
  refine g_icmp_ge (tgt := 39) dX5_append_6 (by decide) (fun c1 => ?_) (fun c1 => ?_)
  · have hf := it_ hf c1
    refine g_aload_n (q := 0) dX5_append_39 rfl rfl ?_
    refine g_dup dX5_append_40 rfl ?_
    refine g_get dX5_append_41 fX5_15 (obX5 E m) (gvX5_1 E m) ?_
    refine g_iload_n (q := 2) dX5_append_44 rfl rfl ?_
    refine g_iadd dX5_append_45 ?_
    refine g_put dX5_append_46 fX5_15 fwX5_1 rfl rfl (obX5 E m) (Nat.le_of_ble_eq_true rfl) (psX5_1 E m _) ?_
    refine nmG hf (fun m2 hf => ?_)
    refine g_aload_n (q := 0) dX5_append_49 rfl rfl ?_
    refine g_get dX5_append_50 fX5_15 (obX5 E m2) (gvX5_1 E m2) ?_
    exact g_ret dX5_append_53 rfl rfl (Option.some.inj hf).symm
  · have hf := ie_ hf c1
    refine g_aload_n (q := 0) dX5_append_9 rfl rfl ?_
    refine g_get dX5_append_10 fX5_9 (obX5 E m) (gvX5_0 E m) ?_
    refine g_aload_n (q := 0) dX5_append_13 rfl rfl ?_
    refine g_get dX5_append_14 fX5_15 (obX5 E m) (gvX5_1 E m) ?_
    refine g_iload (q := 3) dX5_append_17 rfl ?_
    refine g_iadd dX5_append_19 ?_
    refine g_lload_n (q := 1) dX5_append_20 rfl rfl ?_
    refine g_bipush (v := 8) dX5_append_21 kB_8 ?_
    refine g_iload (q := 3) dX5_append_23 rfl ?_
    refine g_imul dX5_append_25 ?_
    refine g_lshr dX5_append_26 ?_
    refine g_l2i dX5_append_27 ?_
    refine g_sipush (v := 255) dX5_append_28 kS_255 ?_
    refine g_iand dX5_append_31 ?_
    obtain ⟨h3, hf⟩ := gd_ hf
    refine g_iast dX5_append_32 ar_52 h3 ?_
    refine nmG hf (fun m4 hf => ?_)
    refine g_iinc (q := 3) (v := l4 + 1) dX5_append_33 rfl (by rw [kI_1]) (Nat.le_of_ble_eq_true rfl) rfl ?_
    refine g_goto (tgt := 3) dX5_append_36 (by decide) ?_
    refine g_lv [1, 2, 3, 0] rfl ?_
    exact ih3 l1 l3 (l4 + 1) m4 hf
theorem wX5_append_l3 (E : pEv) (z : Int32 × pMem) : ∀ (n : Nat) (l1 : Int64) (l3 : Int32) (l4 : Int32) (m : pMem), sX5_append_l3 n l1 l3 l4 m = some z → gM E kX5_append z 3 [(0, .ref (eA E 6)), (1, .long l1), (3, .int l3), (4, .int l4)] [] m := by
  intro n
  induction n with
  | zero => intro l1 l3 l4 m  hf; cases (show (none : Option _) = some z from hf)
  | succ n ih => intro l1 l3 l4 m  hf; exact wX5_append_b3 E z  _  ih l1 l3 l4 m  hf
theorem wX5_append_b0 (E : pEv) (z : Int32 × pMem) (a1 : Int64) (a2 : Int32) (m : pMem) (hf : sX5_append a1 a2 m = some z) : gM E kX5_append z 0 [(0, .ref (eA E 6)), (1, .long a1), (3, .int a2)] [] m := by
  unfold sX5_append at hf
  refine g_iconst (v := 0) dX5_append_0 kI_0 ?_
  refine g_istore dX5_append_1 (Nat.le_of_ble_eq_true rfl) rfl ?_
  refine g_lv [1, 2, 3, 0] rfl ?_
  exact wX5_append_l3 E z  5000 a1 a2 0 m hf
theorem tX5_append (E : pEv) (m : pMem) (a1 : Int64) (a2 : Int32) {z : Int32 × pMem} (hf : sX5_append a1 a2 m = some z) : gCn E yX5_append kX5_append [.ref (eA E 6), .long a1, .int a2] m z := gCn_of (by decide +kernel) rfl rfl rfl (Nat.le_of_ble_eq_true rfl) rfl (wX5_append_b0 E z a1 a2 m  hf)
theorem wX8_write_b11 (E : pEv) (z : Int32 × pMem) (m : pMem) (hf : sX8_write_b11  m = some z) : gM E kX8_write z 11 [] [] m := by
  unfold sX8_write_b11 at hf
  refine g_bipush (v := (-3)) dX8_write_11 kB_m3 ?_
  exact g_ret dX8_write_13 rfl rfl (Option.some.inj hf).symm
theorem wX8_write_b0 (E : pEv) (z : Int32 × pMem) (a1 : Int64) (a2 : Int32) (m : pMem) (hf : sX8_write a1 a2 m = some z) : gM E kX8_write z 0 [(0, .ref (eA E 0)), (1, .long a1), (3, .int a2)] [] m := by
  unfold sX8_write at hf
  refine g_iload_n (q := 2) dX8_write_0 rfl rfl ?_
  refine g_iconst (v := 1) dX8_write_1 kI_1 ?_
  refine g_icmp_lt (tgt := 11) dX8_write_2 (by decide) (fun c1 => ?_) (fun c1 => ?_)
  · have hf := it_ hf c1
    refine g_lv [] rfl ?_
    exact wX8_write_b11 E z  m hf
  · have hf := ie_ hf c1
    refine g_iload_n (q := 2) dX8_write_5 rfl rfl ?_
    refine g_bipush (v := 8) dX8_write_6 kB_8 ?_
    refine g_icmp_le (tgt := 14) dX8_write_8 (by decide) (fun c2 => ?_) (fun c2 => ?_)
    · have hf := it_ hf c2
      refine g_aload_n (q := 0) dX8_write_14 rfl rfl ?_
      refine g_get dX8_write_15 fX8_19 (obX8 E m) (gvX8_1 E m) ?_
      refine g_get dX8_write_18 fX8_138 (obX5 E m) (gvX5_1 E m) ?_
      refine g_iload_n (q := 2) dX8_write_21 rfl rfl ?_
      refine g_iadd dX8_write_22 ?_
      refine g_sipush (v := 160) dX8_write_23 kS_160 ?_
      refine g_icmp_le (tgt := 32) dX8_write_26 (by decide) (fun c3 => ?_) (fun c3 => ?_)
      · have hf := it_ hf c3
        refine g_aload_n (q := 0) dX8_write_32 rfl rfl ?_
        refine g_get dX8_write_33 fX8_19 (obX8 E m) (gvX8_1 E m) ?_
        refine g_lload_n (q := 1) dX8_write_36 rfl rfl ?_
        refine g_iload_n (q := 2) dX8_write_37 rfl rfl ?_
        obtain ⟨r4, m6, q5, hf⟩ := cbE_ hf
        refine g_cV (As := [.long a1, .int a2]) dX8_write_38 (tX5_append E m a1 a2 q5) gyX5_append giX5_append gsX5_append mX8_141 (⟨rfl, rfl, Nat.le_of_ble_eq_true rfl, Nat.le_of_ble_eq_true rfl, Nat.le_of_ble_eq_true rfl, Nat.le_of_ble_eq_true rfl⟩) rfl (obX5 E m) rfl rfl rfl (Nat.le_of_ble_eq_true rfl) ?_
        exact g_ret dX8_write_41 rfl rfl (Option.some.inj hf).symm
      · have hf := ie_ hf c3
        refine g_bipush (v := (-5)) dX8_write_29 kB_m5 ?_
        exact g_ret dX8_write_31 rfl rfl (Option.some.inj hf).symm
    · have hf := ie_ hf c2
      refine g_lv [] rfl ?_
      exact wX8_write_b11 E z  m hf
theorem tX8_write (E : pEv) (m : pMem) (a1 : Int64) (a2 : Int32) {z : Int32 × pMem} (hf : sX8_write a1 a2 m = some z) : gCn E yX8_write kX8_write [.ref (eA E 0), .long a1, .int a2] m z := gCn_of (by decide +kernel) rfl rfl rfl (Nat.le_of_ble_eq_true rfl) rfl (wX8_write_b0 E z a1 a2 m  hf)
theorem wX9_groundsOf_b39 (E : pEv) (z : Int32) (k5 : Int32 → Int32 → Int32 → Int32 → pMem → (Option Int32)) (ih5 : ∀ (l1 : Int32) (l2 : Int32) (l3 : Int32) (l4 : Int32)  (m : pMem), k5 l1 l2 l3 l4 m = some z → gM E kX9_groundsOf (z, m) 5 [(0, .ref (eA E 9)), (1, .int l1), (2, .int l2), (3, .int l3), (4, .int l4)] [] m) (l1 : Int32) (l2 : Int32) (l4 : Int32) (t0 : Int32) (t1 : Int32) (m : pMem) (hf : sX9_groundsOf_b39 k5 l1 l2 l4 t0 t1 m = some z) : gM E kX9_groundsOf (z, m) 39 [(0, .ref (eA E 9)), (1, .int l1), (2, .int l2), (4, .int l4)] [.int t0, .int t1] m := by
  unfold sX9_groundsOf_b39 at hf
  refine g_ior dX9_groundsOf_39 ?_
  refine nmI hf (fun x4 hf => ?_)
  refine g_istore_n dX9_groundsOf_40 rfl (Nat.le_of_ble_eq_true rfl) rfl ?_
  refine g_iinc (q := 4) (v := l4 + 1) dX9_groundsOf_41 rfl (by rw [kI_1]) (Nat.le_of_ble_eq_true rfl) rfl ?_
  refine g_goto (tgt := 5) dX9_groundsOf_44 (by decide) ?_
  refine g_lv [2, 3, 4, 1, 0] rfl ?_
  exact ih5 l1 l2 x4 (l4 + 1) m hf
theorem wX9_groundsOf_b5 (E : pEv) (z : Int32) (k5 : Int32 → Int32 → Int32 → Int32 → pMem → (Option Int32)) (ih5 : ∀ (l1 : Int32) (l2 : Int32) (l3 : Int32) (l4 : Int32)  (m : pMem), k5 l1 l2 l3 l4 m = some z → gM E kX9_groundsOf (z, m) 5 [(0, .ref (eA E 9)), (1, .int l1), (2, .int l2), (3, .int l3), (4, .int l4)] [] m) (l1 : Int32) (l2 : Int32) (l3 : Int32) (l4 : Int32) (m : pMem) (hf : sX9_groundsOf_b5 k5 l1 l2 l3 l4 m = some z) : gM E kX9_groundsOf (z, m) 5 [(0, .ref (eA E 9)), (1, .int l1), (2, .int l2), (3, .int l3), (4, .int l4)] [] m := by
  unfold sX9_groundsOf_b5 at hf
  refine g_iload (q := 4) dX9_groundsOf_5 rfl ?_
  refine g_aload_n (q := 0) dX9_groundsOf_7 rfl rfl ?_
  refine g_get dX9_groundsOf_8 fX9_145 (obX9 E m) (gvX9_0 E m) ?_
  refine g_icmp_ge (tgt := 47) dX9_groundsOf_11 (by decide) (fun c1 => ?_) (fun c1 => ?_)
  · have hf := it_ hf c1
    refine g_iload_n (q := 3) dX9_groundsOf_47 rfl rfl ?_
    exact g_ret dX9_groundsOf_48 rfl rfl (by rw [Option.some.inj hf])
  · have hf := ie_ hf c1
    refine g_iload_n (q := 3) dX9_groundsOf_14 rfl rfl ?_
    refine g_aload_n (q := 0) dX9_groundsOf_15 rfl rfl ?_
    refine g_get dX9_groundsOf_16 fX9_44 (obX9 E m) (gvX9_13 E m) ?_
    refine g_bipush (v := 8) dX9_groundsOf_19 kB_8 ?_
    refine g_iload_n (q := 2) dX9_groundsOf_21 rfl rfl ?_
    refine g_imul dX9_groundsOf_22 ?_
    refine g_iload (q := 4) dX9_groundsOf_23 rfl ?_
    refine g_iadd dX9_groundsOf_25 ?_
    obtain ⟨h2, hf⟩ := gd_ hf
    refine g_iald dX9_groundsOf_26 ar_74 h2 ?_
    refine g_iload_n (q := 1) dX9_groundsOf_27 rfl rfl ?_
    refine g_icmp_ne (tgt := 38) dX9_groundsOf_28 (by decide) (fun c3 => ?_) (fun c3 => ?_)
    · have hf := it_ hf c3
      refine g_iconst (v := 0) dX9_groundsOf_38 kI_0 ?_
      refine g_lv [0, 1, 2, 4] rfl ?_
      exact wX9_groundsOf_b39 E z k5 ih5 l1 l2 l4 0 l3 m hf
    · have hf := ie_ hf (not_not_intro c3)
      refine g_iconst (v := 1) dX9_groundsOf_31 kI_1 ?_
      refine g_iload (q := 4) dX9_groundsOf_32 rfl ?_
      refine g_ishl dX9_groundsOf_34 ?_
      refine g_goto (tgt := 39) dX9_groundsOf_35 (by decide) ?_
      refine g_lv [0, 1, 2, 4] rfl ?_
      exact wX9_groundsOf_b39 E z k5 ih5 l1 l2 l4 ((1 : Int32) <<< (l4 &&& 31)) l3 m hf
theorem wX9_groundsOf_l5 (E : pEv) (z : Int32) : ∀ (n : Nat) (l1 : Int32) (l2 : Int32) (l3 : Int32) (l4 : Int32) (m : pMem), sX9_groundsOf_l5 n l1 l2 l3 l4 m = some z → gM E kX9_groundsOf (z, m) 5 [(0, .ref (eA E 9)), (1, .int l1), (2, .int l2), (3, .int l3), (4, .int l4)] [] m := by
  intro n
  induction n with
  | zero => intro l1 l2 l3 l4 m  hf; cases (show (none : Option _) = some z from hf)
  | succ n ih => intro l1 l2 l3 l4 m  hf; exact wX9_groundsOf_b5 E z  _  ih l1 l2 l3 l4 m  hf
theorem wX9_groundsOf_b0 (E : pEv) (z : Int32) (a1 : Int32) (a2 : Int32) (m : pMem) (hf : sX9_groundsOf a1 a2 m = some z) : gM E kX9_groundsOf (z, m) 0 [(0, .ref (eA E 9)), (1, .int a1), (2, .int a2)] [] m := by
  unfold sX9_groundsOf at hf
  refine g_iconst (v := 0) dX9_groundsOf_0 kI_0 ?_
  refine g_istore_n dX9_groundsOf_1 rfl (Nat.le_of_ble_eq_true rfl) rfl ?_
  refine g_iconst (v := 0) dX9_groundsOf_2 kI_0 ?_
  refine g_istore dX9_groundsOf_3 (Nat.le_of_ble_eq_true rfl) rfl ?_
  refine g_lv [2, 3, 4, 1, 0] rfl ?_
  exact wX9_groundsOf_l5 E z  5000 a1 a2 0 0 m hf
theorem tX9_groundsOf (E : pEv) (m : pMem) (a1 : Int32) (a2 : Int32) {z : Int32} (hf : sX9_groundsOf a1 a2 m = some z) : gCn E yX9_groundsOf kX9_groundsOf [.ref (eA E 9), .int a1, .int a2] m (z, m) := gCn_of (by decide +kernel) rfl rfl rfl (Nat.le_of_ble_eq_true rfl) rfl (wX9_groundsOf_b0 E z a1 a2 m  hf)
theorem wX9_worthOf_b32 (E : pEv) (z : Int32) (k4 : Int32 → Int32 → Int32 → pMem → (Option Int32)) (ih4 : ∀ (l1 : Int32) (l2 : Int32) (l3 : Int32)  (m : pMem), k4 l1 l2 l3 m = some z → gM E kX9_worthOf (z, m) 4 [(0, .ref (eA E 9)), (1, .int l1), (2, .int l2), (3, .int l3)] [] m) (l1 : Int32) (l3 : Int32) (t0 : Int32) (t1 : Int32) (m : pMem) (hf : sX9_worthOf_b32 k4 l1 l3 t0 t1 m = some z) : gM E kX9_worthOf (z, m) 32 [(0, .ref (eA E 9)), (1, .int l1), (3, .int l3)] [.int t0, .int t1] m := by
  unfold sX9_worthOf_b32 at hf
  refine g_iadd dX9_worthOf_32 ?_
  refine nmI hf (fun x4 hf => ?_)
  refine g_istore_n dX9_worthOf_33 rfl (Nat.le_of_ble_eq_true rfl) rfl ?_
  refine g_iinc (q := 3) (v := l3 + 1) dX9_worthOf_34 rfl (by rw [kI_1]) (Nat.le_of_ble_eq_true rfl) rfl ?_
  refine g_goto (tgt := 4) dX9_worthOf_37 (by decide) ?_
  refine g_lv [2, 3, 1, 0] rfl ?_
  exact ih4 l1 x4 (l3 + 1) m hf
theorem wX9_worthOf_b4 (E : pEv) (z : Int32) (k4 : Int32 → Int32 → Int32 → pMem → (Option Int32)) (ih4 : ∀ (l1 : Int32) (l2 : Int32) (l3 : Int32)  (m : pMem), k4 l1 l2 l3 m = some z → gM E kX9_worthOf (z, m) 4 [(0, .ref (eA E 9)), (1, .int l1), (2, .int l2), (3, .int l3)] [] m) (l1 : Int32) (l2 : Int32) (l3 : Int32) (m : pMem) (hf : sX9_worthOf_b4 k4 l1 l2 l3 m = some z) : gM E kX9_worthOf (z, m) 4 [(0, .ref (eA E 9)), (1, .int l1), (2, .int l2), (3, .int l3)] [] m := by
  unfold sX9_worthOf_b4 at hf
  refine g_iload_n (q := 3) dX9_worthOf_4 rfl rfl ?_
  refine g_aload_n (q := 0) dX9_worthOf_5 rfl rfl ?_
  refine g_get dX9_worthOf_6 fX9_145 (obX9 E m) (gvX9_0 E m) ?_
  refine g_icmp_ge (tgt := 40) dX9_worthOf_9 (by decide) (fun c1 => ?_) (fun c1 => ?_)
  · have hf := it_ hf c1
    refine g_iload_n (q := 2) dX9_worthOf_40 rfl rfl ?_
    exact g_ret dX9_worthOf_41 rfl rfl (by rw [Option.some.inj hf])
  · have hf := ie_ hf c1
    refine g_iload_n (q := 2) dX9_worthOf_12 rfl rfl ?_
    refine g_iload_n (q := 1) dX9_worthOf_13 rfl rfl ?_
    refine g_iload_n (q := 3) dX9_worthOf_14 rfl rfl ?_
    refine g_ishr dX9_worthOf_15 ?_
    refine g_iconst (v := 1) dX9_worthOf_16 kI_1 ?_
    refine g_iand dX9_worthOf_17 ?_
    refine g_iconst (v := 1) dX9_worthOf_18 kI_1 ?_
    refine g_icmp_ne (tgt := 31) dX9_worthOf_19 (by decide) (fun c2 => ?_) (fun c2 => ?_)
    · have hf := it_ hf c2
      refine g_iconst (v := 0) dX9_worthOf_31 kI_0 ?_
      refine g_lv [0, 1, 3] rfl ?_
      exact wX9_worthOf_b32 E z k4 ih4 l1 l3 0 l2 m hf
    · have hf := ie_ hf (not_not_intro c2)
      refine g_aload_n (q := 0) dX9_worthOf_22 rfl rfl ?_
      refine g_get dX9_worthOf_23 fX9_13 (obX9 E m) (gvX9_2 E m) ?_
      refine g_iload_n (q := 3) dX9_worthOf_26 rfl rfl ?_
      obtain ⟨h3, hf⟩ := gd_ hf
      refine g_iald dX9_worthOf_27 ar_65 h3 ?_
      refine g_goto (tgt := 32) dX9_worthOf_28 (by decide) ?_
      refine g_lv [0, 1, 3] rfl ?_
      exact wX9_worthOf_b32 E z k4 ih4 l1 l3 (m.1 65 l3.toNatClampNeg) l2 m hf
theorem wX9_worthOf_l4 (E : pEv) (z : Int32) : ∀ (n : Nat) (l1 : Int32) (l2 : Int32) (l3 : Int32) (m : pMem), sX9_worthOf_l4 n l1 l2 l3 m = some z → gM E kX9_worthOf (z, m) 4 [(0, .ref (eA E 9)), (1, .int l1), (2, .int l2), (3, .int l3)] [] m := by
  intro n
  induction n with
  | zero => intro l1 l2 l3 m  hf; cases (show (none : Option _) = some z from hf)
  | succ n ih => intro l1 l2 l3 m  hf; exact wX9_worthOf_b4 E z  _  ih l1 l2 l3 m  hf
theorem wX9_worthOf_b0 (E : pEv) (z : Int32) (a1 : Int32) (m : pMem) (hf : sX9_worthOf a1 m = some z) : gM E kX9_worthOf (z, m) 0 [(0, .ref (eA E 9)), (1, .int a1)] [] m := by
  unfold sX9_worthOf at hf
  refine g_iconst (v := 0) dX9_worthOf_0 kI_0 ?_
  refine g_istore_n dX9_worthOf_1 rfl (Nat.le_of_ble_eq_true rfl) rfl ?_
  refine g_iconst (v := 0) dX9_worthOf_2 kI_0 ?_
  refine g_istore_n dX9_worthOf_3 rfl (Nat.le_of_ble_eq_true rfl) rfl ?_
  refine g_lv [2, 3, 1, 0] rfl ?_
  exact wX9_worthOf_l4 E z  5000 a1 0 0 m hf
theorem tX9_worthOf (E : pEv) (m : pMem) (a1 : Int32) {z : Int32} (hf : sX9_worthOf a1 m = some z) : gCn E yX9_worthOf kX9_worthOf [.ref (eA E 9), .int a1] m (z, m) := gCn_of (by decide +kernel) rfl rfl rfl (Nat.le_of_ble_eq_true rfl) rfl (wX9_worthOf_b0 E z a1 m  hf)
theorem wX9_headsOf_b32 (E : pEv) (z : Int32) (k4 : Int32 → Int32 → Int32 → pMem → (Option Int32)) (ih4 : ∀ (l1 : Int32) (l2 : Int32) (l3 : Int32)  (m : pMem), k4 l1 l2 l3 m = some z → gM E kX9_headsOf (z, m) 4 [(0, .ref (eA E 9)), (1, .int l1), (2, .int l2), (3, .int l3)] [] m) (l1 : Int32) (l3 : Int32) (t0 : Int32) (t1 : Int32) (m : pMem) (hf : sX9_headsOf_b32 k4 l1 l3 t0 t1 m = some z) : gM E kX9_headsOf (z, m) 32 [(0, .ref (eA E 9)), (1, .int l1), (3, .int l3)] [.int t0, .int t1] m := by
  unfold sX9_headsOf_b32 at hf
  refine g_iadd dX9_headsOf_32 ?_
  refine nmI hf (fun x4 hf => ?_)
  refine g_istore_n dX9_headsOf_33 rfl (Nat.le_of_ble_eq_true rfl) rfl ?_
  refine g_iinc (q := 3) (v := l3 + 1) dX9_headsOf_34 rfl (by rw [kI_1]) (Nat.le_of_ble_eq_true rfl) rfl ?_
  refine g_goto (tgt := 4) dX9_headsOf_37 (by decide) ?_
  refine g_lv [2, 3, 1, 0] rfl ?_
  exact ih4 l1 x4 (l3 + 1) m hf
theorem wX9_headsOf_b4 (E : pEv) (z : Int32) (k4 : Int32 → Int32 → Int32 → pMem → (Option Int32)) (ih4 : ∀ (l1 : Int32) (l2 : Int32) (l3 : Int32)  (m : pMem), k4 l1 l2 l3 m = some z → gM E kX9_headsOf (z, m) 4 [(0, .ref (eA E 9)), (1, .int l1), (2, .int l2), (3, .int l3)] [] m) (l1 : Int32) (l2 : Int32) (l3 : Int32) (m : pMem) (hf : sX9_headsOf_b4 k4 l1 l2 l3 m = some z) : gM E kX9_headsOf (z, m) 4 [(0, .ref (eA E 9)), (1, .int l1), (2, .int l2), (3, .int l3)] [] m := by
  unfold sX9_headsOf_b4 at hf
  refine g_iload_n (q := 3) dX9_headsOf_4 rfl rfl ?_
  refine g_aload_n (q := 0) dX9_headsOf_5 rfl rfl ?_
  refine g_get dX9_headsOf_6 fX9_145 (obX9 E m) (gvX9_0 E m) ?_
  refine g_icmp_ge (tgt := 40) dX9_headsOf_9 (by decide) (fun c1 => ?_) (fun c1 => ?_)
  · have hf := it_ hf c1
    refine g_iload_n (q := 2) dX9_headsOf_40 rfl rfl ?_
    exact g_ret dX9_headsOf_41 rfl rfl (by rw [Option.some.inj hf])
  · have hf := ie_ hf c1
    refine g_iload_n (q := 2) dX9_headsOf_12 rfl rfl ?_
    refine g_iload_n (q := 1) dX9_headsOf_13 rfl rfl ?_
    refine g_iload_n (q := 3) dX9_headsOf_14 rfl rfl ?_
    refine g_ishr dX9_headsOf_15 ?_
    refine g_iconst (v := 1) dX9_headsOf_16 kI_1 ?_
    refine g_iand dX9_headsOf_17 ?_
    refine g_iconst (v := 1) dX9_headsOf_18 kI_1 ?_
    refine g_icmp_ne (tgt := 31) dX9_headsOf_19 (by decide) (fun c2 => ?_) (fun c2 => ?_)
    · have hf := it_ hf c2
      refine g_iconst (v := 0) dX9_headsOf_31 kI_0 ?_
      refine g_lv [0, 1, 3] rfl ?_
      exact wX9_headsOf_b32 E z k4 ih4 l1 l3 0 l2 m hf
    · have hf := ie_ hf (not_not_intro c2)
      refine g_aload_n (q := 0) dX9_headsOf_22 rfl rfl ?_
      refine g_get dX9_headsOf_23 fX9_7 (obX9 E m) (gvX9_1 E m) ?_
      refine g_iload_n (q := 3) dX9_headsOf_26 rfl rfl ?_
      obtain ⟨h3, hf⟩ := gd_ hf
      refine g_iald dX9_headsOf_27 ar_64 h3 ?_
      refine g_goto (tgt := 32) dX9_headsOf_28 (by decide) ?_
      refine g_lv [0, 1, 3] rfl ?_
      exact wX9_headsOf_b32 E z k4 ih4 l1 l3 (m.1 64 l3.toNatClampNeg) l2 m hf
theorem wX9_headsOf_l4 (E : pEv) (z : Int32) : ∀ (n : Nat) (l1 : Int32) (l2 : Int32) (l3 : Int32) (m : pMem), sX9_headsOf_l4 n l1 l2 l3 m = some z → gM E kX9_headsOf (z, m) 4 [(0, .ref (eA E 9)), (1, .int l1), (2, .int l2), (3, .int l3)] [] m := by
  intro n
  induction n with
  | zero => intro l1 l2 l3 m  hf; cases (show (none : Option _) = some z from hf)
  | succ n ih => intro l1 l2 l3 m  hf; exact wX9_headsOf_b4 E z  _  ih l1 l2 l3 m  hf
theorem wX9_headsOf_b0 (E : pEv) (z : Int32) (a1 : Int32) (m : pMem) (hf : sX9_headsOf a1 m = some z) : gM E kX9_headsOf (z, m) 0 [(0, .ref (eA E 9)), (1, .int a1)] [] m := by
  unfold sX9_headsOf at hf
  refine g_iconst (v := 0) dX9_headsOf_0 kI_0 ?_
  refine g_istore_n dX9_headsOf_1 rfl (Nat.le_of_ble_eq_true rfl) rfl ?_
  refine g_iconst (v := 0) dX9_headsOf_2 kI_0 ?_
  refine g_istore_n dX9_headsOf_3 rfl (Nat.le_of_ble_eq_true rfl) rfl ?_
  refine g_lv [2, 3, 1, 0] rfl ?_
  exact wX9_headsOf_l4 E z  5000 a1 0 0 m hf
theorem tX9_headsOf (E : pEv) (m : pMem) (a1 : Int32) {z : Int32} (hf : sX9_headsOf a1 m = some z) : gCn E yX9_headsOf kX9_headsOf [.ref (eA E 9), .int a1] m (z, m) := gCn_of (by decide +kernel) rfl rfl rfl (Nat.le_of_ble_eq_true rfl) rfl (wX9_headsOf_b0 E z a1 m  hf)
theorem wX9_keyOf_b39 (E : pEv) (z : Int32) (t0 : Int32) (m : pMem) (hf : sX9_keyOf_b39 t0 m = some z) : gM E kX9_keyOf (z, m) 39 [] [.int t0] m := by
  unfold sX9_keyOf_b39 at hf
  exact g_ret dX9_keyOf_39 rfl rfl (by rw [Option.some.inj hf])
theorem wX9_keyOf_b18 (E : pEv) (z : Int32) (m : pMem) (hf : sX9_keyOf_b18  m = some z) : gM E kX9_keyOf (z, m) 18 [] [] m := by
  unfold sX9_keyOf_b18 at hf
  refine g_iconst (v := 1) dX9_keyOf_18 kI_1 ?_
  refine g_goto (tgt := 39) dX9_keyOf_19 (by decide) ?_
  exact wX9_keyOf_b39 E z  1 m hf
theorem wX9_keyOf_b22 (E : pEv) (z : Int32) (l1 : Int32) (l3 : Int32) (m : pMem) (hf : sX9_keyOf_b22 l1 l3 m = some z) : gM E kX9_keyOf (z, m) 22 [(0, .ref (eA E 9)), (1, .int l1), (3, .int l3)] [] m := by
  unfold sX9_keyOf_b22 at hf
  refine g_iload_n (q := 2) dX9_keyOf_22 rfl rfl ?_
  refine g_if_ne (tgt := 34) dX9_keyOf_23 (by decide) (fun c6 => ?_) (fun c6 => ?_)
  · have hf := it_ hf c6
    refine g_aload_n (q := 0) dX9_keyOf_34 rfl rfl ?_
    refine g_iload_n (q := 1) dX9_keyOf_35 rfl rfl ?_
    obtain ⟨r7, q8, hf⟩ := cbR_ hf
    refine g_cV (As := [.int l1]) dX9_keyOf_36 (tX9_worthOf E m l1 q8) gyX9_worthOf giX9_worthOf gsX9_worthOf mX9_328 (⟨rfl, rfl, Nat.le_of_ble_eq_true rfl, Nat.le_of_ble_eq_true rfl, Nat.le_of_ble_eq_true rfl, Nat.le_of_ble_eq_true rfl⟩) rfl (obX9 E m) rfl rfl rfl (Nat.le_of_ble_eq_true rfl) ?_
    refine g_lv [] rfl ?_
    exact wX9_keyOf_b39 E z  r7 m hf
  · have hf := ie_ hf (not_not_intro c6)
    refine g_aload_n (q := 0) dX9_keyOf_26 rfl rfl ?_
    refine g_iload_n (q := 1) dX9_keyOf_27 rfl rfl ?_
    obtain ⟨r9, q10, hf⟩ := cbR_ hf
    refine g_cV (As := [.int l1]) dX9_keyOf_28 (tX9_headsOf E m l1 q10) gyX9_headsOf giX9_headsOf gsX9_headsOf mX9_196 (⟨rfl, rfl, Nat.le_of_ble_eq_true rfl, Nat.le_of_ble_eq_true rfl, Nat.le_of_ble_eq_true rfl, Nat.le_of_ble_eq_true rfl⟩) rfl (obX9 E m) rfl rfl rfl (Nat.le_of_ble_eq_true rfl) ?_
    refine g_goto (tgt := 39) dX9_keyOf_31 (by decide) ?_
    refine g_lv [] rfl ?_
    exact wX9_keyOf_b39 E z  r9 m hf
theorem wX9_keyOf_b0 (E : pEv) (z : Int32) (a1 : Int32) (a2 : Int32) (a3 : Int32) (m : pMem) (hf : sX9_keyOf a1 a2 a3 m = some z) : gM E kX9_keyOf (z, m) 0 [(0, .ref (eA E 9)), (1, .int a1), (2, .int a2), (3, .int a3)] [] m := by
  unfold sX9_keyOf at hf
  refine g_iload_n (q := 3) dX9_keyOf_0 rfl rfl ?_
  refine g_iconst (v := 2) dX9_keyOf_1 kI_2 ?_
  refine g_icmp_eq (tgt := 18) dX9_keyOf_2 (by decide) (fun c1 => ?_) (fun c1 => ?_)
  · have hf := it_ hf c1
    refine g_lv [] rfl ?_
    exact wX9_keyOf_b18 E z  m hf
  · have hf := ie_ hf c1
    refine g_iload_n (q := 3) dX9_keyOf_5 rfl rfl ?_
    refine g_iconst (v := 1) dX9_keyOf_6 kI_1 ?_
    refine g_icmp_ne (tgt := 22) dX9_keyOf_7 (by decide) (fun c2 => ?_) (fun c2 => ?_)
    · have hf := it_ hf c2
      refine g_lv [0, 1, 3] rfl ?_
      exact wX9_keyOf_b22 E z  a1 a3 m hf
    · have hf := ie_ hf (not_not_intro c2)
      refine g_aload_n (q := 0) dX9_keyOf_10 rfl rfl ?_
      refine g_iload_n (q := 2) dX9_keyOf_11 rfl rfl ?_
      obtain ⟨r3, q4, hf⟩ := cbR_ hf
      refine g_cV (As := [.int a2]) dX9_keyOf_12 (tX9_worthOf E m a2 q4) gyX9_worthOf giX9_worthOf gsX9_worthOf mX9_328 (⟨rfl, rfl, Nat.le_of_ble_eq_true rfl, Nat.le_of_ble_eq_true rfl, Nat.le_of_ble_eq_true rfl, Nat.le_of_ble_eq_true rfl⟩) rfl (obX9 E m) rfl rfl rfl (Nat.le_of_ble_eq_true rfl) ?_
      refine g_if_ne (tgt := 22) dX9_keyOf_15 (by decide) (fun c5 => ?_) (fun c5 => ?_)
      · have hf := it_ hf c5
        refine g_lv [0, 1, 3] rfl ?_
        exact wX9_keyOf_b22 E z  a1 a3 m hf
      · have hf := ie_ hf (not_not_intro c5)
        refine g_lv [] rfl ?_
        exact wX9_keyOf_b18 E z  m hf
theorem tX9_keyOf (E : pEv) (m : pMem) (a1 : Int32) (a2 : Int32) (a3 : Int32) {z : Int32} (hf : sX9_keyOf a1 a2 a3 m = some z) : gCn E yX9_keyOf kX9_keyOf [.ref (eA E 9), .int a1, .int a2, .int a3] m (z, m) := gCn_of (by decide +kernel) rfl rfl rfl (Nat.le_of_ble_eq_true rfl) rfl (wX9_keyOf_b0 E z a1 a2 a3 m  hf)
theorem wX9_abroadAt_b186 (E : pEv) (z : Int32 × pMem) (m : pMem) (hf : sX9_abroadAt_b186  m = some z) : gM E kX9_abroadAt z 186 [] [] m := by
  unfold sX9_abroadAt_b186 at hf
  exact g_retv dX9_abroadAt_186 rfl (by rw [← Option.some.inj hf])
theorem wX9_abroadAt_b184 (E : pEv) (z : Int32 × pMem) (t0 : Int32) (m : pMem) (hf : sX9_abroadAt_b184 t0 m = some z) : gM E kX9_abroadAt z 184 [] [.int t0, .ref (eA E 105)] m := by
  unfold sX9_abroadAt_b184 at hf
  refine g_iconst (v := 1) dX9_abroadAt_184 kI_1 ?_
  obtain ⟨h35, hf⟩ := gd_ hf
  refine g_iast dX9_abroadAt_185 ar_105 h35 ?_
  refine nmG hf (fun m36 hf => ?_)
  exact wX9_abroadAt_b186 E z  m36 hf
theorem wX9_abroadAt_b79 (E : pEv) (z : Int32 × pMem) (l1 : Int32) (l2 : Int32) (l3 : Int32) (l4 : Int32) (m : pMem) (hf : sX9_abroadAt_b79 l1 l2 l3 l4 m = some z) : gM E kX9_abroadAt z 79 [(0, .ref (eA E 9)), (1, .int l1), (2, .int l2), (3, .int l3), (4, .int l4)] [] m := by
  unfold sX9_abroadAt_b79 at hf
  refine g_aload_n (q := 0) dX9_abroadAt_79 rfl rfl ?_
  refine g_get dX9_abroadAt_80 fX9_138 (obX9 E m) (gvX9_59 E m) ?_
  refine g_iload_n (q := 3) dX9_abroadAt_83 rfl rfl ?_
  obtain ⟨h19, hf⟩ := gd_ hf
  refine g_iald dX9_abroadAt_84 ar_105 h19 ?_
  refine g_iconst (v := 1) dX9_abroadAt_85 kI_1 ?_
  refine g_icmp_ne (tgt := 186) dX9_abroadAt_86 (by decide) (fun c20 => ?_) (fun c20 => ?_)
  · have hf := it_ hf c20
    refine g_lv [] rfl ?_
    exact wX9_abroadAt_b186 E z  m hf
  · have hf := ie_ hf (not_not_intro c20)
    refine g_aload_n (q := 0) dX9_abroadAt_89 rfl rfl ?_
    refine g_iload_n (q := 3) dX9_abroadAt_90 rfl rfl ?_
    refine g_iload_n (q := 1) dX9_abroadAt_91 rfl rfl ?_
    obtain ⟨r21, q22, hf⟩ := cbR_ hf
    refine g_cV (As := [.int l3, .int l1]) dX9_abroadAt_92 (tX9_groundsOf E m l3 l1 q22) gyX9_groundsOf giX9_groundsOf gsX9_groundsOf mX9_155 (⟨rfl, rfl, Nat.le_of_ble_eq_true rfl, Nat.le_of_ble_eq_true rfl, Nat.le_of_ble_eq_true rfl, Nat.le_of_ble_eq_true rfl⟩) rfl (obX9 E m) rfl rfl rfl (Nat.le_of_ble_eq_true rfl) ?_
    refine g_istore dX9_abroadAt_95 (Nat.le_of_ble_eq_true rfl) rfl ?_
    refine g_aload_n (q := 1) dX9_abroadAt_97 rfl rfl ?_
    refine g_aload_n (q := 1) dX9_abroadAt_98 rfl rfl ?_
    refine g_get dX9_abroadAt_99 fX9_38 (obX9 E m) (gvX9_11 E m) ?_
    refine g_iload_n (q := 2) dX9_abroadAt_102 rfl rfl ?_
    obtain ⟨h23, hf⟩ := gd_ hf
    refine g_iald dX9_abroadAt_103 ar_72 h23 ?_
    refine g_iload (q := 0) dX9_abroadAt_104 rfl ?_
    refine g_iload_n (q := 3) dX9_abroadAt_106 rfl rfl ?_
    obtain ⟨r24, q25, hf⟩ := cbR_ hf
    refine g_cV (As := [.int (m.1 72 l1.toNatClampNeg), .int r21, .int l2]) dX9_abroadAt_107 (tX9_keyOf E m (m.1 72 l1.toNatClampNeg) r21 l2 q25) gyX9_keyOf giX9_keyOf gsX9_keyOf mX9_331 (⟨rfl, rfl, Nat.le_of_ble_eq_true rfl, Nat.le_of_ble_eq_true rfl, Nat.le_of_ble_eq_true rfl, Nat.le_of_ble_eq_true rfl⟩) rfl (obX9 E m) rfl rfl rfl (Nat.le_of_ble_eq_true rfl) ?_
    refine g_istore dX9_abroadAt_110 (Nat.le_of_ble_eq_true rfl) rfl ?_
    refine g_aload_n (q := 2) dX9_abroadAt_112 rfl rfl ?_
    refine g_iload (q := 1) dX9_abroadAt_113 rfl ?_
    refine g_aload_n (q := 2) dX9_abroadAt_115 rfl rfl ?_
    refine g_get dX9_abroadAt_116 fX9_38 (obX9 E m) (gvX9_11 E m) ?_
    refine g_iload_n (q := 3) dX9_abroadAt_119 rfl rfl ?_
    obtain ⟨h26, hf⟩ := gd_ hf
    refine g_iald dX9_abroadAt_120 ar_72 h26 ?_
    refine g_iconst (v := (-1)) dX9_abroadAt_121 kI_m1 ?_
    refine g_ixor dX9_abroadAt_122 ?_
    refine g_iand dX9_abroadAt_123 ?_
    refine g_iload (q := 1) dX9_abroadAt_124 rfl ?_
    refine g_iload_n (q := 4) dX9_abroadAt_126 rfl rfl ?_
    obtain ⟨r27, q28, hf⟩ := cbR_ hf
    refine g_cV (As := [.int (r21 &&& ((m.1 72 l1.toNatClampNeg) ^^^ (-1 : Int32))), .int r21, .int l2]) dX9_abroadAt_127 (tX9_keyOf E m (r21 &&& ((m.1 72 l1.toNatClampNeg) ^^^ (-1 : Int32))) r21 l2 q28) gyX9_keyOf giX9_keyOf gsX9_keyOf mX9_331 (⟨rfl, rfl, Nat.le_of_ble_eq_true rfl, Nat.le_of_ble_eq_true rfl, Nat.le_of_ble_eq_true rfl, Nat.le_of_ble_eq_true rfl⟩) rfl (obX9 E m) rfl rfl rfl (Nat.le_of_ble_eq_true rfl) ?_
    refine g_istore dX9_abroadAt_130 (Nat.le_of_ble_eq_true rfl) rfl ?_
    refine g_aload_n (q := 3) dX9_abroadAt_132 rfl rfl ?_
    refine g_get dX9_abroadAt_133 fX9_138 (obX9 E m) (gvX9_59 E m) ?_
    refine g_iload_n (q := 6) dX9_abroadAt_136 rfl rfl ?_
    refine g_iconst (v := 0) dX9_abroadAt_137 kI_0 ?_
    obtain ⟨h29, hf⟩ := gd_ hf
    refine g_iast dX9_abroadAt_138 ar_105 h29 ?_
    refine nmG hf (fun m30 hf => ?_)
    refine g_aload_n (q := 3) dX9_abroadAt_139 rfl rfl ?_
    refine g_get dX9_abroadAt_140 fX9_138 (obX9 E m30) (gvX9_59 E m30) ?_
    refine g_aload_n (q := 3) dX9_abroadAt_143 rfl rfl ?_
    refine g_get dX9_abroadAt_144 fX9_26 (obX9 E m30) (gvX9_7 E m30) ?_
    refine g_iload_n (q := 4) dX9_abroadAt_147 rfl rfl ?_
    obtain ⟨h31, hf⟩ := gd_ hf
    refine g_iald dX9_abroadAt_148 ar_68 h31 ?_
    refine g_if_ne (tgt := 168) dX9_abroadAt_149 (by decide) (fun c32 => ?_) (fun c32 => ?_)
    · have hf := it_ hf c32
      refine g_iload (q := 1) dX9_abroadAt_168 rfl ?_
      refine g_iload (q := 0) dX9_abroadAt_170 rfl ?_
      refine g_icmp_lt (tgt := 180) dX9_abroadAt_172 (by decide) (fun c33 => ?_) (fun c33 => ?_)
      · have hf := it_ hf c33
        refine g_iload (q := 7) dX9_abroadAt_180 rfl ?_
        refine g_iconst (v := 1) dX9_abroadAt_182 kI_1 ?_
        refine g_iadd dX9_abroadAt_183 ?_
        refine g_lv [] rfl ?_
        exact wX9_abroadAt_b184 E z  (l4 + (1 : Int32)) m30 hf
      · have hf := ie_ hf c33
        refine g_iload (q := 7) dX9_abroadAt_175 rfl ?_
        refine g_goto (tgt := 184) dX9_abroadAt_177 (by decide) ?_
        refine g_lv [] rfl ?_
        exact wX9_abroadAt_b184 E z  l4 m30 hf
    · have hf := ie_ hf (not_not_intro c32)
      refine g_iload (q := 1) dX9_abroadAt_152 rfl ?_
      refine g_iload (q := 0) dX9_abroadAt_154 rfl ?_
      refine g_icmp_le (tgt := 164) dX9_abroadAt_156 (by decide) (fun c34 => ?_) (fun c34 => ?_)
      · have hf := it_ hf c34
        refine g_iload_n (q := 6) dX9_abroadAt_164 rfl rfl ?_
        refine g_goto (tgt := 184) dX9_abroadAt_165 (by decide) ?_
        refine g_lv [] rfl ?_
        exact wX9_abroadAt_b184 E z  l3 m30 hf
      · have hf := ie_ hf c34
        refine g_iload (q := 7) dX9_abroadAt_159 rfl ?_
        refine g_goto (tgt := 184) dX9_abroadAt_161 (by decide) ?_
        refine g_lv [] rfl ?_
        exact wX9_abroadAt_b184 E z  l4 m30 hf
theorem wX9_abroadAt_b0 (E : pEv) (z : Int32 × pMem) (a1 : Int32) (a2 : Int32) (m : pMem) (hf : sX9_abroadAt a1 a2 m = some z) : gM E kX9_abroadAt z 0 [(0, .ref (eA E 9)), (1, .int a1), (2, .int a2)] [] m := by
  unfold sX9_abroadAt at hf
  refine g_aload_n (q := 0) dX9_abroadAt_0 rfl rfl ?_
  refine g_get dX9_abroadAt_1 fX9_32 (obX9 E m) (gvX9_9 E m) ?_
  refine g_iload_n (q := 1) dX9_abroadAt_4 rfl rfl ?_
  obtain ⟨h1, hf⟩ := gd_ hf
  refine g_iald dX9_abroadAt_5 ar_70 h1 ?_
  refine nmI hf (fun x2 hf => ?_)
  refine g_istore_n dX9_abroadAt_6 rfl (Nat.le_of_ble_eq_true rfl) rfl ?_
  refine g_aload_n (q := 1) dX9_abroadAt_7 rfl rfl ?_
  refine g_get dX9_abroadAt_8 fX9_41 (obX9 E m) (gvX9_12 E m) ?_
  refine g_iload_n (q := 2) dX9_abroadAt_11 rfl rfl ?_
  obtain ⟨h3, hf⟩ := gd_ hf
  refine g_iald dX9_abroadAt_12 ar_73 h3 ?_
  refine nmI hf (fun x4 hf => ?_)
  refine g_istore dX9_abroadAt_13 (Nat.le_of_ble_eq_true rfl) rfl ?_
  refine g_aload_n (q := 2) dX9_abroadAt_15 rfl rfl ?_
  refine g_get dX9_abroadAt_16 fX9_26 (obX9 E m) (gvX9_7 E m) ?_
  refine g_iload_n (q := 3) dX9_abroadAt_19 rfl rfl ?_
  obtain ⟨h5, hf⟩ := gd_ hf
  refine g_iald dX9_abroadAt_20 ar_68 h5 ?_
  refine g_iconst (v := 2) dX9_abroadAt_21 kI_2 ?_
  refine g_icmp_ne (tgt := 60) dX9_abroadAt_22 (by decide) (fun c6 => ?_) (fun c6 => ?_)
  · have hf := it_ hf c6
    refine g_aload_n (q := 2) dX9_abroadAt_60 rfl rfl ?_
    refine g_get dX9_abroadAt_61 fX9_26 (obX9 E m) (gvX9_7 E m) ?_
    refine g_iload_n (q := 3) dX9_abroadAt_64 rfl rfl ?_
    obtain ⟨h7, hf⟩ := gd_ hf
    refine g_iald dX9_abroadAt_65 ar_68 h7 ?_
    refine g_if_eq (tgt := 79) dX9_abroadAt_66 (by decide) (fun c8 => ?_) (fun c8 => ?_)
    · have hf := it_ hf c8
      refine g_lv [2, 3, 4, 1, 0] rfl ?_
      exact wX9_abroadAt_b79 E z  a1 a2 x2 x4 m hf
    · have hf := ie_ hf c8
      refine g_aload_n (q := 2) dX9_abroadAt_69 rfl rfl ?_
      refine g_get dX9_abroadAt_70 fX9_26 (obX9 E m) (gvX9_7 E m) ?_
      refine g_iload_n (q := 3) dX9_abroadAt_73 rfl rfl ?_
      obtain ⟨h9, hf⟩ := gd_ hf
      refine g_iald dX9_abroadAt_74 ar_68 h9 ?_
      refine g_iconst (v := 1) dX9_abroadAt_75 kI_1 ?_
      refine g_icmp_ne (tgt := 186) dX9_abroadAt_76 (by decide) (fun c10 => ?_) (fun c10 => ?_)
      · have hf := it_ hf c10
        refine g_lv [] rfl ?_
        exact wX9_abroadAt_b186 E z  m hf
      · have hf := ie_ hf (not_not_intro c10)
        refine g_lv [2, 3, 4, 1, 0] rfl ?_
        exact wX9_abroadAt_b79 E z  a1 a2 x2 x4 m hf
  · have hf := ie_ hf (not_not_intro c6)
    refine g_aload_n (q := 2) dX9_abroadAt_25 rfl rfl ?_
    refine g_get dX9_abroadAt_26 fX9_138 (obX9 E m) (gvX9_59 E m) ?_
    refine g_iload_n (q := 1) dX9_abroadAt_29 rfl rfl ?_
    refine g_dup2 dX9_abroadAt_30 rfl rfl ?_
    obtain ⟨h11, hf⟩ := gd_ hf
    refine g_iald dX9_abroadAt_31 ar_105 h11 ?_
    refine g_aload_n (q := 2) dX9_abroadAt_32 rfl rfl ?_
    refine g_get dX9_abroadAt_33 fX9_138 (obX9 E m) (gvX9_59 E m) ?_
    refine g_aload_n (q := 2) dX9_abroadAt_36 rfl rfl ?_
    refine g_get dX9_abroadAt_37 fX9_35 (obX9 E m) (gvX9_10 E m) ?_
    refine g_iload_n (q := 3) dX9_abroadAt_40 rfl rfl ?_
    obtain ⟨h12, hf⟩ := gd_ hf
    refine g_iald dX9_abroadAt_41 ar_71 h12 ?_
    obtain ⟨h13, hf⟩ := gd_ hf
    refine g_iald dX9_abroadAt_42 ar_105 h13 ?_
    refine g_iadd dX9_abroadAt_43 ?_
    obtain ⟨h14, hf⟩ := gd_ hf
    refine g_iast dX9_abroadAt_44 ar_105 h14 ?_
    refine nmG hf (fun m15 hf => ?_)
    refine g_aload_n (q := 2) dX9_abroadAt_45 rfl rfl ?_
    refine g_get dX9_abroadAt_46 fX9_138 (obX9 E m15) (gvX9_59 E m15) ?_
    refine g_aload_n (q := 2) dX9_abroadAt_49 rfl rfl ?_
    refine g_get dX9_abroadAt_50 fX9_35 (obX9 E m15) (gvX9_10 E m15) ?_
    refine g_iload_n (q := 3) dX9_abroadAt_53 rfl rfl ?_
    obtain ⟨h16, hf⟩ := gd_ hf
    refine g_iald dX9_abroadAt_54 ar_71 h16 ?_
    refine g_iconst (v := 0) dX9_abroadAt_55 kI_0 ?_
    obtain ⟨h17, hf⟩ := gd_ hf
    refine g_iast dX9_abroadAt_56 ar_105 h17 ?_
    refine nmG hf (fun m18 hf => ?_)
    refine g_goto (tgt := 186) dX9_abroadAt_57 (by decide) ?_
    refine g_lv [] rfl ?_
    exact wX9_abroadAt_b186 E z  m18 hf
theorem tX9_abroadAt (E : pEv) (m : pMem) (a1 : Int32) (a2 : Int32) {z : Int32 × pMem} (hf : sX9_abroadAt a1 a2 m = some z) : gCn E yX9_abroadAt kX9_abroadAt [.ref (eA E 9), .int a1, .int a2] m z := gCn_of (by decide +kernel) rfl rfl rfl (Nat.le_of_ble_eq_true rfl) rfl (wX9_abroadAt_b0 E z a1 a2 m  hf)
theorem wX9_beginPart_b23 (E : pEv) (z : Int32 × pMem) (k2 : Int32 → Int32 → Int32 → pMem → gO) (ih2 : ∀ (l1 : Int32) (l2 : Int32) (l3 : Int32)  (m : pMem), k2 l1 l2 l3 m = some z → gM E kX9_beginPart z 2 [(0, .ref (eA E 9)), (1, .int l1), (2, .int l2), (3, .int l3)] [] m) (l1 : Int32) (l2 : Int32) (l3 : Int32) (t0 : Int32) (t1 : Int32) (m : pMem) (hf : sX9_beginPart_b23 k2 l1 l2 l3 t0 t1 m = some z) : gM E kX9_beginPart z 23 [(0, .ref (eA E 9)), (1, .int l1), (2, .int l2), (3, .int l3)] [.int t0, .int t1, .ref (eA E 105)] m := by
  unfold sX9_beginPart_b23 at hf
  obtain ⟨h3, hf⟩ := gd_ hf
  refine g_iast dX9_beginPart_23 ar_105 h3 ?_
  refine nmG hf (fun m4 hf => ?_)
  refine g_iinc (q := 3) (v := l3 + 1) dX9_beginPart_24 rfl (by rw [kI_1]) (Nat.le_of_ble_eq_true rfl) rfl ?_
  refine g_goto (tgt := 2) dX9_beginPart_27 (by decide) ?_
  refine g_lv [1, 2, 3, 0] rfl ?_
  exact ih2 l1 l2 (l3 + 1) m4 hf
theorem wX9_beginPart_b2 (E : pEv) (z : Int32 × pMem) (k2 : Int32 → Int32 → Int32 → pMem → gO) (ih2 : ∀ (l1 : Int32) (l2 : Int32) (l3 : Int32)  (m : pMem), k2 l1 l2 l3 m = some z → gM E kX9_beginPart z 2 [(0, .ref (eA E 9)), (1, .int l1), (2, .int l2), (3, .int l3)] [] m) (l1 : Int32) (l2 : Int32) (l3 : Int32) (m : pMem) (hf : sX9_beginPart_b2 k2 l1 l2 l3 m = some z) : gM E kX9_beginPart z 2 [(0, .ref (eA E 9)), (1, .int l1), (2, .int l2), (3, .int l3)] [] m := by
  unfold sX9_beginPart_b2 at hf
  refine g_iload_n (q := 3) dX9_beginPart_2 rfl rfl ?_
  refine g_bipush (v := 10) dX9_beginPart_3 kB_10 ?_
  refine g_icmp_ge (tgt := 30) dX9_beginPart_5 (by decide) (fun c1 => ?_) (fun c1 => ?_)
  · have hf := it_ hf c1
    exact g_retv dX9_beginPart_30 rfl (by rw [← Option.some.inj hf])
  · have hf := ie_ hf c1
    refine g_aload_n (q := 0) dX9_beginPart_8 rfl rfl ?_
    refine g_get dX9_beginPart_9 fX9_138 (obX9 E m) (gvX9_59 E m) ?_
    refine g_iload_n (q := 3) dX9_beginPart_12 rfl rfl ?_
    refine g_iload_n (q := 3) dX9_beginPart_13 rfl rfl ?_
    refine g_iload_n (q := 1) dX9_beginPart_14 rfl rfl ?_
    refine g_icmp_ne (tgt := 22) dX9_beginPart_15 (by decide) (fun c2 => ?_) (fun c2 => ?_)
    · have hf := it_ hf c2
      refine g_iconst (v := 0) dX9_beginPart_22 kI_0 ?_
      exact wX9_beginPart_b23 E z k2 ih2 l1 l2 l3 0 l3 m hf
    · have hf := ie_ hf (not_not_intro c2)
      refine g_iload_n (q := 2) dX9_beginPart_18 rfl rfl ?_
      refine g_goto (tgt := 23) dX9_beginPart_19 (by decide) ?_
      exact wX9_beginPart_b23 E z k2 ih2 l1 l2 l3 l2 l3 m hf
theorem wX9_beginPart_l2 (E : pEv) (z : Int32 × pMem) : ∀ (n : Nat) (l1 : Int32) (l2 : Int32) (l3 : Int32) (m : pMem), sX9_beginPart_l2 n l1 l2 l3 m = some z → gM E kX9_beginPart z 2 [(0, .ref (eA E 9)), (1, .int l1), (2, .int l2), (3, .int l3)] [] m := by
  intro n
  induction n with
  | zero => intro l1 l2 l3 m  hf; cases (show (none : Option _) = some z from hf)
  | succ n ih => intro l1 l2 l3 m  hf; exact wX9_beginPart_b2 E z  _  ih l1 l2 l3 m  hf
theorem wX9_beginPart_b0 (E : pEv) (z : Int32 × pMem) (a1 : Int32) (a2 : Int32) (m : pMem) (hf : sX9_beginPart a1 a2 m = some z) : gM E kX9_beginPart z 0 [(0, .ref (eA E 9)), (1, .int a1), (2, .int a2)] [] m := by
  unfold sX9_beginPart at hf
  refine g_iconst (v := 0) dX9_beginPart_0 kI_0 ?_
  refine g_istore_n dX9_beginPart_1 rfl (Nat.le_of_ble_eq_true rfl) rfl ?_
  refine g_lv [1, 2, 3, 0] rfl ?_
  exact wX9_beginPart_l2 E z  5000 a1 a2 0 m hf
theorem tX9_beginPart (E : pEv) (m : pMem) (a1 : Int32) (a2 : Int32) {z : Int32 × pMem} (hf : sX9_beginPart a1 a2 m = some z) : gCn E yX9_beginPart kX9_beginPart [.ref (eA E 9), .int a1, .int a2] m z := gCn_of (by decide +kernel) rfl rfl rfl (Nat.le_of_ble_eq_true rfl) rfl (wX9_beginPart_b0 E z a1 a2 m  hf)
theorem wX9_in_b15 (E : pEv) (z : Int32) (t0 : Int32) (m : pMem) (hf : sX9_in_b15 t0 m = some z) : gM E kX9_in (z, m) 15 [] [.int t0] m := by
  unfold sX9_in_b15 at hf
  exact g_retz dX9_in_15 rfl (by rw [Option.some.inj hf])
theorem wX9_in_b14 (E : pEv) (z : Int32) (m : pMem) (hf : sX9_in_b14  m = some z) : gM E kX9_in (z, m) 14 [] [] m := by
  unfold sX9_in_b14 at hf
  refine g_iconst (v := 0) dX9_in_14 kI_0 ?_
  exact wX9_in_b15 E z  0 m hf
theorem wX9_in_b0 (E : pEv) (z : Int32) (a1 : Int32) (a2 : Int32) (a3 : Int32) (m : pMem) (hf : sX9_in a1 a2 a3 m = some z) : gM E kX9_in (z, m) 0 [(0, .int a1), (1, .int a2), (2, .int a3)] [] m := by
  unfold sX9_in at hf
  refine g_iload_n (q := 0) dX9_in_0 rfl rfl ?_
  refine g_iload_n (q := 1) dX9_in_1 rfl rfl ?_
  refine g_icmp_lt (tgt := 14) dX9_in_2 (by decide) (fun c1 => ?_) (fun c1 => ?_)
  · have hf := it_ hf c1
    refine g_lv [] rfl ?_
    exact wX9_in_b14 E z  m hf
  · have hf := ie_ hf c1
    refine g_iload_n (q := 0) dX9_in_5 rfl rfl ?_
    refine g_iload_n (q := 2) dX9_in_6 rfl rfl ?_
    refine g_icmp_gt (tgt := 14) dX9_in_7 (by decide) (fun c2 => ?_) (fun c2 => ?_)
    · have hf := it_ hf c2
      refine g_lv [] rfl ?_
      exact wX9_in_b14 E z  m hf
    · have hf := ie_ hf c2
      refine g_iconst (v := 1) dX9_in_10 kI_1 ?_
      refine g_goto (tgt := 15) dX9_in_11 (by decide) ?_
      refine g_lv [] rfl ?_
      exact wX9_in_b15 E z  1 m hf
theorem tX9_in (E : pEv) (m : pMem) (a1 : Int32) (a2 : Int32) (a3 : Int32) {z : Int32} (hf : sX9_in a1 a2 a3 m = some z) : gCn E yX9_in kX9_in [.int a1, .int a2, .int a3] m (z, m) := gCn_of (by decide +kernel) rfl rfl rfl (Nat.le_of_ble_eq_true rfl) rfl (wX9_in_b0 E z a1 a2 a3 m  hf)
theorem wX9_isLand_b0 (E : pEv) (z : Int32) (a1 : Int32) (m : pMem) (hf : sX9_isLand a1 m = some z) : gM E kX9_isLand (z, m) 0 [(0, .ref (eA E 9)), (1, .int a1)] [] m := by
  unfold sX9_isLand at hf
  refine g_iload_n (q := 1) dX9_isLand_0 rfl rfl ?_
  refine g_iconst (v := 0) dX9_isLand_1 kI_0 ?_
  refine g_aload_n (q := 0) dX9_isLand_2 rfl rfl ?_
  refine g_get dX9_isLand_3 fX9_16 (obX9 E m) (gvX9_3 E m) ?_
  refine g_iconst (v := 1) dX9_isLand_6 kI_1 ?_
  refine g_isub dX9_isLand_7 ?_
  obtain ⟨r1, q2, hf⟩ := cbR_ hf
  refine g_cS (As := [.int a1, .int 0, .int ((m.1 9 3) - (1 : Int32))]) dX9_isLand_8 (tX9_in E m a1 0 ((m.1 9 3) - (1 : Int32)) q2) gyX9_in giX9_in mX9_148 (⟨rfl, rfl, Nat.le_of_ble_eq_true rfl, Nat.le_of_ble_eq_true rfl, Nat.le_of_ble_eq_true rfl, Nat.le_of_ble_eq_true rfl⟩) rfl rfl rfl (Nat.le_of_ble_eq_true rfl) ?_
  exact g_retz dX9_isLand_11 rfl (by rw [Option.some.inj hf])
theorem tX9_isLand (E : pEv) (m : pMem) (a1 : Int32) {z : Int32} (hf : sX9_isLand a1 m = some z) : gCn E yX9_isLand kX9_isLand [.ref (eA E 9), .int a1] m (z, m) := gCn_of (by decide +kernel) rfl rfl rfl (Nat.le_of_ble_eq_true rfl) rfl (wX9_isLand_b0 E z a1 m  hf)
theorem wX9_isDay_b0 (E : pEv) (z : Int32) (a1 : Int32) (m : pMem) (hf : sX9_isDay a1 m = some z) : gM E kX9_isDay (z, m) 0 [(0, .int a1)] [] m := by
  unfold sX9_isDay at hf
  refine g_iload_n (q := 0) dX9_isDay_0 rfl rfl ?_
  refine g_iconst (v := 0) dX9_isDay_1 kI_0 ?_
  refine g_sipush (v := 999) dX9_isDay_2 kS_999 ?_
  obtain ⟨r1, q2, hf⟩ := cbR_ hf
  refine g_cS (As := [.int a1, .int 0, .int 999]) dX9_isDay_5 (tX9_in E m a1 0 999 q2) gyX9_in giX9_in mX9_148 (⟨rfl, rfl, Nat.le_of_ble_eq_true rfl, Nat.le_of_ble_eq_true rfl, Nat.le_of_ble_eq_true rfl, Nat.le_of_ble_eq_true rfl⟩) rfl rfl rfl (Nat.le_of_ble_eq_true rfl) ?_
  exact g_retz dX9_isDay_8 rfl (by rw [Option.some.inj hf])
theorem tX9_isDay (E : pEv) (m : pMem) (a1 : Int32) {z : Int32} (hf : sX9_isDay a1 m = some z) : gCn E yX9_isDay kX9_isDay [.int a1] m (z, m) := gCn_of (by decide +kernel) rfl rfl rfl (Nat.le_of_ble_eq_true rfl) rfl (wX9_isDay_b0 E z a1 m  hf)
theorem wX9_doneBy_b28 (E : pEv) (z : Int32) (k4 : Int32 → Int32 → Int32 → pMem → (Option Int32)) (ih4 : ∀ (l1 : Int32) (l2 : Int32) (l3 : Int32)  (m : pMem), k4 l1 l2 l3 m = some z → gM E kX9_doneBy (z, m) 4 [(0, .ref (eA E 9)), (1, .int l1), (2, .int l2), (3, .int l3)] [] m) (l1 : Int32) (l3 : Int32) (t0 : Int32) (t1 : Int32) (m : pMem) (hf : sX9_doneBy_b28 k4 l1 l3 t0 t1 m = some z) : gM E kX9_doneBy (z, m) 28 [(0, .ref (eA E 9)), (1, .int l1), (3, .int l3)] [.int t0, .int t1] m := by
  unfold sX9_doneBy_b28 at hf
  refine g_iadd dX9_doneBy_28 ?_
  refine nmI hf (fun x4 hf => ?_)
  refine g_istore_n dX9_doneBy_29 rfl (Nat.le_of_ble_eq_true rfl) rfl ?_
  refine g_iinc (q := 3) (v := l3 + 1) dX9_doneBy_30 rfl (by rw [kI_1]) (Nat.le_of_ble_eq_true rfl) rfl ?_
  refine g_goto (tgt := 4) dX9_doneBy_33 (by decide) ?_
  refine g_lv [2, 3, 1, 0] rfl ?_
  exact ih4 l1 x4 (l3 + 1) m hf
theorem wX9_doneBy_b4 (E : pEv) (z : Int32) (k4 : Int32 → Int32 → Int32 → pMem → (Option Int32)) (ih4 : ∀ (l1 : Int32) (l2 : Int32) (l3 : Int32)  (m : pMem), k4 l1 l2 l3 m = some z → gM E kX9_doneBy (z, m) 4 [(0, .ref (eA E 9)), (1, .int l1), (2, .int l2), (3, .int l3)] [] m) (l1 : Int32) (l2 : Int32) (l3 : Int32) (m : pMem) (hf : sX9_doneBy_b4 k4 l1 l2 l3 m = some z) : gM E kX9_doneBy (z, m) 4 [(0, .ref (eA E 9)), (1, .int l1), (2, .int l2), (3, .int l3)] [] m := by
  unfold sX9_doneBy_b4 at hf
  refine g_iload_n (q := 3) dX9_doneBy_4 rfl rfl ?_
  refine g_aload_n (q := 0) dX9_doneBy_5 rfl rfl ?_
  refine g_get dX9_doneBy_6 fX9_152 (obX9 E m) (gvX9_6 E m) ?_
  refine g_icmp_ge (tgt := 36) dX9_doneBy_9 (by decide) (fun c1 => ?_) (fun c1 => ?_)
  · have hf := it_ hf c1
    refine g_iload_n (q := 2) dX9_doneBy_36 rfl rfl ?_
    exact g_ret dX9_doneBy_37 rfl rfl (by rw [Option.some.inj hf])
  · have hf := ie_ hf c1
    refine g_iload_n (q := 2) dX9_doneBy_12 rfl rfl ?_
    refine g_aload_n (q := 0) dX9_doneBy_13 rfl rfl ?_
    refine g_get dX9_doneBy_14 fX9_29 (obX9 E m) (gvX9_8 E m) ?_
    refine g_iload_n (q := 3) dX9_doneBy_17 rfl rfl ?_
    obtain ⟨h2, hf⟩ := gd_ hf
    refine g_iald dX9_doneBy_18 ar_69 h2 ?_
    refine g_iload_n (q := 1) dX9_doneBy_19 rfl rfl ?_
    refine g_icmp_gt (tgt := 27) dX9_doneBy_20 (by decide) (fun c3 => ?_) (fun c3 => ?_)
    · have hf := it_ hf c3
      refine g_iconst (v := 0) dX9_doneBy_27 kI_0 ?_
      refine g_lv [0, 1, 3] rfl ?_
      exact wX9_doneBy_b28 E z k4 ih4 l1 l3 0 l2 m hf
    · have hf := ie_ hf c3
      refine g_iconst (v := 1) dX9_doneBy_23 kI_1 ?_
      refine g_goto (tgt := 28) dX9_doneBy_24 (by decide) ?_
      refine g_lv [0, 1, 3] rfl ?_
      exact wX9_doneBy_b28 E z k4 ih4 l1 l3 1 l2 m hf
theorem wX9_doneBy_l4 (E : pEv) (z : Int32) : ∀ (n : Nat) (l1 : Int32) (l2 : Int32) (l3 : Int32) (m : pMem), sX9_doneBy_l4 n l1 l2 l3 m = some z → gM E kX9_doneBy (z, m) 4 [(0, .ref (eA E 9)), (1, .int l1), (2, .int l2), (3, .int l3)] [] m := by
  intro n
  induction n with
  | zero => intro l1 l2 l3 m  hf; cases (show (none : Option _) = some z from hf)
  | succ n ih => intro l1 l2 l3 m  hf; exact wX9_doneBy_b4 E z  _  ih l1 l2 l3 m  hf
theorem wX9_doneBy_b0 (E : pEv) (z : Int32) (a1 : Int32) (m : pMem) (hf : sX9_doneBy a1 m = some z) : gM E kX9_doneBy (z, m) 0 [(0, .ref (eA E 9)), (1, .int a1)] [] m := by
  unfold sX9_doneBy at hf
  refine g_iconst (v := 0) dX9_doneBy_0 kI_0 ?_
  refine g_istore_n dX9_doneBy_1 rfl (Nat.le_of_ble_eq_true rfl) rfl ?_
  refine g_iconst (v := 0) dX9_doneBy_2 kI_0 ?_
  refine g_istore_n dX9_doneBy_3 rfl (Nat.le_of_ble_eq_true rfl) rfl ?_
  refine g_lv [2, 3, 1, 0] rfl ?_
  exact wX9_doneBy_l4 E z  5000 a1 0 0 m hf
theorem tX9_doneBy (E : pEv) (m : pMem) (a1 : Int32) {z : Int32} (hf : sX9_doneBy a1 m = some z) : gCn E yX9_doneBy kX9_doneBy [.ref (eA E 9), .int a1] m (z, m) := gCn_of (by decide +kernel) rfl rfl rfl (Nat.le_of_ble_eq_true rfl) rfl (wX9_doneBy_b0 E z a1 m  hf)
theorem wX9_shareAt_b204 (E : pEv) (z : Int32 × pMem) (m : pMem) (hf : sX9_shareAt_b204  m = some z) : gM E kX9_shareAt z 204 [] [] m := by
  unfold sX9_shareAt_b204 at hf
  exact g_retv dX9_shareAt_204 rfl (by rw [← Option.some.inj hf])
theorem wX9_shareAt_b203 (E : pEv) (z : Int32 × pMem) (t0 : Int32) (t1 : Int32) (m : pMem) (hf : sX9_shareAt_b203 t0 t1 m = some z) : gM E kX9_shareAt z 203 [] [.int t0, .int t1, .ref (eA E 105)] m := by
  unfold sX9_shareAt_b203 at hf
  obtain ⟨h40, hf⟩ := gd_ hf
  refine g_iast dX9_shareAt_203 ar_105 h40 ?_
  refine nmG hf (fun m41 hf => ?_)
  exact wX9_shareAt_b204 E z  m41 hf
theorem wX9_shareAt_b169 (E : pEv) (z : Int32 × pMem) (l1 : Int32) (l3 : Int32) (l8 : Int32) (t0 : Int32) (m : pMem) (hf : sX9_shareAt_b169 l1 l3 l8 t0 m = some z) : gM E kX9_shareAt z 169 [(0, .ref (eA E 9)), (1, .int l1), (3, .int l3), (8, .int l8)] [.int t0, .ref (eA E 105)] m := by
  unfold sX9_shareAt_b169 at hf
  refine g_aload_n (q := 0) dX9_shareAt_169 rfl rfl ?_
  refine g_get dX9_shareAt_170 fX9_138 (obX9 E m) (gvX9_59 E m) ?_
  refine g_iload_n (q := 2) dX9_shareAt_173 rfl rfl ?_
  obtain ⟨h34, hf⟩ := gd_ hf
  refine g_iald dX9_shareAt_174 ar_105 h34 ?_
  refine g_iload (q := 3) dX9_shareAt_175 rfl ?_
  refine g_isub dX9_shareAt_177 ?_
  obtain ⟨h35, hf⟩ := gd_ hf
  refine g_iast dX9_shareAt_178 ar_105 h35 ?_
  refine nmG hf (fun m36 hf => ?_)
  refine g_aload_n (q := 0) dX9_shareAt_179 rfl rfl ?_
  refine g_get dX9_shareAt_180 fX9_138 (obX9 E m36) (gvX9_59 E m36) ?_
  refine g_iload_n (q := 2) dX9_shareAt_183 rfl rfl ?_
  refine g_aload_n (q := 0) dX9_shareAt_184 rfl rfl ?_
  refine g_get dX9_shareAt_185 fX9_26 (obX9 E m36) (gvX9_7 E m36) ?_
  refine g_iload_n (q := 1) dX9_shareAt_188 rfl rfl ?_
  obtain ⟨h37, hf⟩ := gd_ hf
  refine g_iald dX9_shareAt_189 ar_68 h37 ?_
  refine g_if_ne (tgt := 202) dX9_shareAt_190 (by decide) (fun c38 => ?_) (fun c38 => ?_)
  · have hf := it_ hf c38
    refine g_iconst (v := 0) dX9_shareAt_202 kI_0 ?_
    refine g_lv [] rfl ?_
    exact wX9_shareAt_b203 E z  0 l3 m36 hf
  · have hf := ie_ hf (not_not_intro c38)
    refine g_aload_n (q := 0) dX9_shareAt_193 rfl rfl ?_
    refine g_get dX9_shareAt_194 fX9_138 (obX9 E m36) (gvX9_59 E m36) ?_
    refine g_iload_n (q := 2) dX9_shareAt_197 rfl rfl ?_
    obtain ⟨h39, hf⟩ := gd_ hf
    refine g_iald dX9_shareAt_198 ar_105 h39 ?_
    refine g_goto (tgt := 203) dX9_shareAt_199 (by decide) ?_
    refine g_lv [] rfl ?_
    exact wX9_shareAt_b203 E z  (m36.1 105 l3.toNatClampNeg) l3 m36 hf
theorem wX9_shareAt_b79 (E : pEv) (z : Int32 × pMem) (l1 : Int32) (l2 : Int32) (l3 : Int32) (l4 : Int32) (m : pMem) (hf : sX9_shareAt_b79 l1 l2 l3 l4 m = some z) : gM E kX9_shareAt z 79 [(0, .ref (eA E 9)), (1, .int l1), (2, .int l2), (3, .int l3), (4, .int l4)] [] m := by
  unfold sX9_shareAt_b79 at hf
  refine g_aload_n (q := 0) dX9_shareAt_79 rfl rfl ?_
  refine g_iload_n (q := 3) dX9_shareAt_80 rfl rfl ?_
  refine g_iload_n (q := 1) dX9_shareAt_81 rfl rfl ?_
  obtain ⟨r19, q20, hf⟩ := cbR_ hf
  refine g_cV (As := [.int l3, .int l1]) dX9_shareAt_82 (tX9_groundsOf E m l3 l1 q20) gyX9_groundsOf giX9_groundsOf gsX9_groundsOf mX9_155 (⟨rfl, rfl, Nat.le_of_ble_eq_true rfl, Nat.le_of_ble_eq_true rfl, Nat.le_of_ble_eq_true rfl, Nat.le_of_ble_eq_true rfl⟩) rfl (obX9 E m) rfl rfl rfl (Nat.le_of_ble_eq_true rfl) ?_
  refine g_istore dX9_shareAt_85 (Nat.le_of_ble_eq_true rfl) rfl ?_
  refine g_aload_n (q := 1) dX9_shareAt_87 rfl rfl ?_
  refine g_aload_n (q := 1) dX9_shareAt_88 rfl rfl ?_
  refine g_get dX9_shareAt_89 fX9_38 (obX9 E m) (gvX9_11 E m) ?_
  refine g_iload_n (q := 2) dX9_shareAt_92 rfl rfl ?_
  obtain ⟨h21, hf⟩ := gd_ hf
  refine g_iald dX9_shareAt_93 ar_72 h21 ?_
  refine g_iload (q := 0) dX9_shareAt_94 rfl ?_
  refine g_iload_n (q := 3) dX9_shareAt_96 rfl rfl ?_
  obtain ⟨r22, q23, hf⟩ := cbR_ hf
  refine g_cV (As := [.int (m.1 72 l1.toNatClampNeg), .int r19, .int l2]) dX9_shareAt_97 (tX9_keyOf E m (m.1 72 l1.toNatClampNeg) r19 l2 q23) gyX9_keyOf giX9_keyOf gsX9_keyOf mX9_331 (⟨rfl, rfl, Nat.le_of_ble_eq_true rfl, Nat.le_of_ble_eq_true rfl, Nat.le_of_ble_eq_true rfl, Nat.le_of_ble_eq_true rfl⟩) rfl (obX9 E m) rfl rfl rfl (Nat.le_of_ble_eq_true rfl) ?_
  refine g_istore dX9_shareAt_100 (Nat.le_of_ble_eq_true rfl) rfl ?_
  refine g_aload_n (q := 2) dX9_shareAt_102 rfl rfl ?_
  refine g_iload (q := 1) dX9_shareAt_103 rfl ?_
  refine g_aload_n (q := 2) dX9_shareAt_105 rfl rfl ?_
  refine g_get dX9_shareAt_106 fX9_38 (obX9 E m) (gvX9_11 E m) ?_
  refine g_iload_n (q := 3) dX9_shareAt_109 rfl rfl ?_
  obtain ⟨h24, hf⟩ := gd_ hf
  refine g_iald dX9_shareAt_110 ar_72 h24 ?_
  refine g_iconst (v := (-1)) dX9_shareAt_111 kI_m1 ?_
  refine g_ixor dX9_shareAt_112 ?_
  refine g_iand dX9_shareAt_113 ?_
  refine g_iload (q := 1) dX9_shareAt_114 rfl ?_
  refine g_iload_n (q := 4) dX9_shareAt_116 rfl rfl ?_
  obtain ⟨r25, q26, hf⟩ := cbR_ hf
  refine g_cV (As := [.int (r19 &&& ((m.1 72 l1.toNatClampNeg) ^^^ (-1 : Int32))), .int r19, .int l2]) dX9_shareAt_117 (tX9_keyOf E m (r19 &&& ((m.1 72 l1.toNatClampNeg) ^^^ (-1 : Int32))) r19 l2 q26) gyX9_keyOf giX9_keyOf gsX9_keyOf mX9_331 (⟨rfl, rfl, Nat.le_of_ble_eq_true rfl, Nat.le_of_ble_eq_true rfl, Nat.le_of_ble_eq_true rfl, Nat.le_of_ble_eq_true rfl⟩) rfl (obX9 E m) rfl rfl rfl (Nat.le_of_ble_eq_true rfl) ?_
  refine g_istore dX9_shareAt_120 (Nat.le_of_ble_eq_true rfl) rfl ?_
  refine g_aload_n (q := 3) dX9_shareAt_122 rfl rfl ?_
  refine g_get dX9_shareAt_123 fX9_138 (obX9 E m) (gvX9_59 E m) ?_
  refine g_iload_n (q := 6) dX9_shareAt_126 rfl rfl ?_
  obtain ⟨h27, hf⟩ := gd_ hf
  refine g_iald dX9_shareAt_127 ar_105 h27 ?_
  refine g_iload (q := 1) dX9_shareAt_128 rfl ?_
  refine g_imul dX9_shareAt_130 ?_
  refine g_iload (q := 1) dX9_shareAt_131 rfl ?_
  refine g_iload (q := 0) dX9_shareAt_133 rfl ?_
  refine g_iadd dX9_shareAt_135 ?_
  obtain ⟨h28, hf⟩ := gd_ hf
  refine g_idiv dX9_shareAt_136 h28 ?_
  refine nmI hf (fun x29 hf => ?_)
  refine g_istore dX9_shareAt_137 (Nat.le_of_ble_eq_true rfl) rfl ?_
  refine g_aload_n (q := 4) dX9_shareAt_139 rfl rfl ?_
  refine g_get dX9_shareAt_140 fX9_138 (obX9 E m) (gvX9_59 E m) ?_
  refine g_iload (q := 8) dX9_shareAt_143 rfl ?_
  refine g_iload (q := 0) dX9_shareAt_145 rfl ?_
  obtain ⟨h30, hf⟩ := gd_ hf
  refine g_iast dX9_shareAt_147 ar_105 h30 ?_
  refine nmG hf (fun m31 hf => ?_)
  refine g_aload_n (q := 4) dX9_shareAt_148 rfl rfl ?_
  refine g_get dX9_shareAt_149 fX9_138 (obX9 E m31) (gvX9_59 E m31) ?_
  refine g_aload_n (q := 4) dX9_shareAt_152 rfl rfl ?_
  refine g_get dX9_shareAt_153 fX9_26 (obX9 E m31) (gvX9_7 E m31) ?_
  refine g_iload_n (q := 5) dX9_shareAt_156 rfl rfl ?_
  obtain ⟨h32, hf⟩ := gd_ hf
  refine g_iald dX9_shareAt_157 ar_68 h32 ?_
  refine g_if_ne (tgt := 165) dX9_shareAt_158 (by decide) (fun c33 => ?_) (fun c33 => ?_)
  · have hf := it_ hf c33
    refine g_iload (q := 8) dX9_shareAt_165 rfl ?_
    refine g_iconst (v := 1) dX9_shareAt_167 kI_1 ?_
    refine g_iadd dX9_shareAt_168 ?_
    refine g_lv [4, 5, 7, 0] rfl ?_
    exact wX9_shareAt_b169 E z  l1 l3 x29 (l4 + (1 : Int32)) m31 hf
  · have hf := ie_ hf (not_not_intro c33)
    refine g_iload_n (q := 7) dX9_shareAt_161 rfl rfl ?_
    refine g_goto (tgt := 169) dX9_shareAt_162 (by decide) ?_
    refine g_lv [4, 5, 7, 0] rfl ?_
    exact wX9_shareAt_b169 E z  l1 l3 x29 l3 m31 hf
theorem wX9_shareAt_b0 (E : pEv) (z : Int32 × pMem) (a1 : Int32) (a2 : Int32) (m : pMem) (hf : sX9_shareAt a1 a2 m = some z) : gM E kX9_shareAt z 0 [(0, .ref (eA E 9)), (1, .int a1), (2, .int a2)] [] m := by
  unfold sX9_shareAt at hf
  refine g_aload_n (q := 0) dX9_shareAt_0 rfl rfl ?_
  refine g_get dX9_shareAt_1 fX9_32 (obX9 E m) (gvX9_9 E m) ?_
  refine g_iload_n (q := 1) dX9_shareAt_4 rfl rfl ?_
  obtain ⟨h1, hf⟩ := gd_ hf
  refine g_iald dX9_shareAt_5 ar_70 h1 ?_
  refine nmI hf (fun x2 hf => ?_)
  refine g_istore_n dX9_shareAt_6 rfl (Nat.le_of_ble_eq_true rfl) rfl ?_
  refine g_aload_n (q := 1) dX9_shareAt_7 rfl rfl ?_
  refine g_get dX9_shareAt_8 fX9_41 (obX9 E m) (gvX9_12 E m) ?_
  refine g_iload_n (q := 2) dX9_shareAt_11 rfl rfl ?_
  obtain ⟨h3, hf⟩ := gd_ hf
  refine g_iald dX9_shareAt_12 ar_73 h3 ?_
  refine nmI hf (fun x4 hf => ?_)
  refine g_istore dX9_shareAt_13 (Nat.le_of_ble_eq_true rfl) rfl ?_
  refine g_aload_n (q := 2) dX9_shareAt_15 rfl rfl ?_
  refine g_get dX9_shareAt_16 fX9_26 (obX9 E m) (gvX9_7 E m) ?_
  refine g_iload_n (q := 3) dX9_shareAt_19 rfl rfl ?_
  obtain ⟨h5, hf⟩ := gd_ hf
  refine g_iald dX9_shareAt_20 ar_68 h5 ?_
  refine g_iconst (v := 2) dX9_shareAt_21 kI_2 ?_
  refine g_icmp_ne (tgt := 60) dX9_shareAt_22 (by decide) (fun c6 => ?_) (fun c6 => ?_)
  · have hf := it_ hf c6
    refine g_aload_n (q := 2) dX9_shareAt_60 rfl rfl ?_
    refine g_get dX9_shareAt_61 fX9_26 (obX9 E m) (gvX9_7 E m) ?_
    refine g_iload_n (q := 3) dX9_shareAt_64 rfl rfl ?_
    obtain ⟨h7, hf⟩ := gd_ hf
    refine g_iald dX9_shareAt_65 ar_68 h7 ?_
    refine g_if_eq (tgt := 79) dX9_shareAt_66 (by decide) (fun c8 => ?_) (fun c8 => ?_)
    · have hf := it_ hf c8
      refine g_lv [2, 3, 4, 1, 0] rfl ?_
      exact wX9_shareAt_b79 E z  a1 a2 x2 x4 m hf
    · have hf := ie_ hf c8
      refine g_aload_n (q := 2) dX9_shareAt_69 rfl rfl ?_
      refine g_get dX9_shareAt_70 fX9_26 (obX9 E m) (gvX9_7 E m) ?_
      refine g_iload_n (q := 3) dX9_shareAt_73 rfl rfl ?_
      obtain ⟨h9, hf⟩ := gd_ hf
      refine g_iald dX9_shareAt_74 ar_68 h9 ?_
      refine g_iconst (v := 1) dX9_shareAt_75 kI_1 ?_
      refine g_icmp_ne (tgt := 204) dX9_shareAt_76 (by decide) (fun c10 => ?_) (fun c10 => ?_)
      · have hf := it_ hf c10
        refine g_lv [] rfl ?_
        exact wX9_shareAt_b204 E z  m hf
      · have hf := ie_ hf (not_not_intro c10)
        refine g_lv [2, 3, 4, 1, 0] rfl ?_
        exact wX9_shareAt_b79 E z  a1 a2 x2 x4 m hf
  · have hf := ie_ hf (not_not_intro c6)
    refine g_aload_n (q := 2) dX9_shareAt_25 rfl rfl ?_
    refine g_get dX9_shareAt_26 fX9_138 (obX9 E m) (gvX9_59 E m) ?_
    refine g_iload_n (q := 1) dX9_shareAt_29 rfl rfl ?_
    refine g_dup2 dX9_shareAt_30 rfl rfl ?_
    obtain ⟨h11, hf⟩ := gd_ hf
    refine g_iald dX9_shareAt_31 ar_105 h11 ?_
    refine g_aload_n (q := 2) dX9_shareAt_32 rfl rfl ?_
    refine g_get dX9_shareAt_33 fX9_138 (obX9 E m) (gvX9_59 E m) ?_
    refine g_aload_n (q := 2) dX9_shareAt_36 rfl rfl ?_
    refine g_get dX9_shareAt_37 fX9_35 (obX9 E m) (gvX9_10 E m) ?_
    refine g_iload_n (q := 3) dX9_shareAt_40 rfl rfl ?_
    obtain ⟨h12, hf⟩ := gd_ hf
    refine g_iald dX9_shareAt_41 ar_71 h12 ?_
    obtain ⟨h13, hf⟩ := gd_ hf
    refine g_iald dX9_shareAt_42 ar_105 h13 ?_
    refine g_iadd dX9_shareAt_43 ?_
    obtain ⟨h14, hf⟩ := gd_ hf
    refine g_iast dX9_shareAt_44 ar_105 h14 ?_
    refine nmG hf (fun m15 hf => ?_)
    refine g_aload_n (q := 2) dX9_shareAt_45 rfl rfl ?_
    refine g_get dX9_shareAt_46 fX9_138 (obX9 E m15) (gvX9_59 E m15) ?_
    refine g_aload_n (q := 2) dX9_shareAt_49 rfl rfl ?_
    refine g_get dX9_shareAt_50 fX9_35 (obX9 E m15) (gvX9_10 E m15) ?_
    refine g_iload_n (q := 3) dX9_shareAt_53 rfl rfl ?_
    obtain ⟨h16, hf⟩ := gd_ hf
    refine g_iald dX9_shareAt_54 ar_71 h16 ?_
    refine g_iconst (v := 0) dX9_shareAt_55 kI_0 ?_
    obtain ⟨h17, hf⟩ := gd_ hf
    refine g_iast dX9_shareAt_56 ar_105 h17 ?_
    refine nmG hf (fun m18 hf => ?_)
    refine g_goto (tgt := 204) dX9_shareAt_57 (by decide) ?_
    refine g_lv [] rfl ?_
    exact wX9_shareAt_b204 E z  m18 hf
theorem tX9_shareAt (E : pEv) (m : pMem) (a1 : Int32) (a2 : Int32) {z : Int32 × pMem} (hf : sX9_shareAt a1 a2 m = some z) : gCn E yX9_shareAt kX9_shareAt [.ref (eA E 9), .int a1, .int a2] m z := gCn_of (by decide +kernel) rfl rfl rfl (Nat.le_of_ble_eq_true rfl) rfl (wX9_shareAt_b0 E z a1 a2 m  hf)
theorem wX9_owesOf_b111 (E : pEv) (z : Int32 × pMem) (k80 : Int32 → Int32 → Int32 → Int32 → Int32 → pMem → gO) (ih80 : ∀ (l1 : Int32) (l2 : Int32) (l4 : Int32) (l5 : Int32) (l6 : Int32)  (m : pMem), k80 l1 l2 l4 l5 l6 m = some z → gM E kX9_owesOf z 80 [(0, .ref (eA E 9)), (1, .int l1), (2, .int l2), (4, .int l4), (5, .int l5), (6, .int l6)] [] m) (l1 : Int32) (l2 : Int32) (l4 : Int32) (l5 : Int32) (l6 : Int32) (m : pMem) (hf : sX9_owesOf_b111 k80 l1 l2 l4 l5 l6 m = some z) : gM E kX9_owesOf z 111 [(0, .ref (eA E 9)), (1, .int l1), (2, .int l2), (4, .int l4), (5, .int l5), (6, .int l6)] [] m := by
  unfold sX9_owesOf_b111 at hf
  refine g_iinc (q := 5) (v := l6 + 1) dX9_owesOf_111 rfl (by rw [kI_1]) (Nat.le_of_ble_eq_true rfl) rfl ?_
  refine g_goto (tgt := 80) dX9_owesOf_114 (by decide) ?_
  refine g_lv [1, 2, 3, 4, 5, 0] rfl ?_
  exact ih80 l1 l2 l4 l5 (l6 + 1) m hf
theorem wX9_owesOf_b80 (E : pEv) (z : Int32 × pMem) (k80 : Int32 → Int32 → Int32 → Int32 → Int32 → pMem → gO) (ih80 : ∀ (l1 : Int32) (l2 : Int32) (l4 : Int32) (l5 : Int32) (l6 : Int32)  (m : pMem), k80 l1 l2 l4 l5 l6 m = some z → gM E kX9_owesOf z 80 [(0, .ref (eA E 9)), (1, .int l1), (2, .int l2), (4, .int l4), (5, .int l5), (6, .int l6)] [] m) (l1 : Int32) (l2 : Int32) (l4 : Int32) (l5 : Int32) (l6 : Int32) (m : pMem) (hf : sX9_owesOf_b80 k80 l1 l2 l4 l5 l6 m = some z) : gM E kX9_owesOf z 80 [(0, .ref (eA E 9)), (1, .int l1), (2, .int l2), (4, .int l4), (5, .int l5), (6, .int l6)] [] m := by
  unfold sX9_owesOf_b80 at hf
  refine g_iload (q := 5) dX9_owesOf_80 rfl ?_
  refine g_iload (q := 4) dX9_owesOf_82 rfl ?_
  refine g_icmp_ge (tgt := 117) dX9_owesOf_84 (by decide) (fun c16 => ?_) (fun c16 => ?_)
  · have hf := it_ hf c16
    refine g_aload_n (q := 0) dX9_owesOf_117 rfl rfl ?_
    refine g_get dX9_owesOf_118 fX9_138 (obX9 E m) (gvX9_59 E m) ?_
    refine g_iload_n (q := 2) dX9_owesOf_121 rfl rfl ?_
    obtain ⟨h17, hf⟩ := gd_ hf
    refine g_iald dX9_owesOf_122 ar_105 h17 ?_
    exact g_ret dX9_owesOf_123 rfl rfl (Option.some.inj hf).symm
  · have hf := ie_ hf c16
    refine g_aload_n (q := 0) dX9_owesOf_87 rfl rfl ?_
    refine g_get dX9_owesOf_88 fX9_29 (obX9 E m) (gvX9_8 E m) ?_
    refine g_iload (q := 5) dX9_owesOf_91 rfl ?_
    obtain ⟨h18, hf⟩ := gd_ hf
    refine g_iald dX9_owesOf_93 ar_69 h18 ?_
    refine g_aload_n (q := 0) dX9_owesOf_94 rfl rfl ?_
    refine g_get dX9_owesOf_95 fX9_117 (obX9 E m) (gvX9_50 E m) ?_
    refine g_iload_n (q := 1) dX9_owesOf_98 rfl rfl ?_
    obtain ⟨h19, hf⟩ := gd_ hf
    refine g_iald dX9_owesOf_99 ar_98 h19 ?_
    refine g_icmp_le (tgt := 111) dX9_owesOf_100 (by decide) (fun c20 => ?_) (fun c20 => ?_)
    · have hf := it_ hf c20
      exact wX9_owesOf_b111 E z k80 ih80 l1 l2 l4 l5 l6 m hf
    · have hf := ie_ hf c20
      refine g_aload_n (q := 0) dX9_owesOf_103 rfl rfl ?_
      refine g_iload (q := 5) dX9_owesOf_104 rfl ?_
      refine g_iload (q := 3) dX9_owesOf_106 rfl ?_
      obtain ⟨r21, m23, q22, hf⟩ := cbE_ hf
      refine g_cVv (As := [.int l6, .int l4]) dX9_owesOf_108 (tX9_shareAt E m l6 l4 q22) gyX9_shareAt giX9_shareAt gsX9_shareAt mX9_338 (⟨rfl, rfl, Nat.le_of_ble_eq_true rfl, Nat.le_of_ble_eq_true rfl, Nat.le_of_ble_eq_true rfl, Nat.le_of_ble_eq_true rfl⟩) rfl (obX9 E m) rfl rfl rfl (Nat.le_of_ble_eq_true rfl) ?_
      exact wX9_owesOf_b111 E z k80 ih80 l1 l2 l4 l5 l6 m23 hf
theorem wX9_owesOf_l80 (E : pEv) (z : Int32 × pMem) : ∀ (n : Nat) (l1 : Int32) (l2 : Int32) (l4 : Int32) (l5 : Int32) (l6 : Int32) (m : pMem), sX9_owesOf_l80 n l1 l2 l4 l5 l6 m = some z → gM E kX9_owesOf z 80 [(0, .ref (eA E 9)), (1, .int l1), (2, .int l2), (4, .int l4), (5, .int l5), (6, .int l6)] [] m := by
  intro n
  induction n with
  | zero => intro l1 l2 l4 l5 l6 m  hf; cases (show (none : Option _) = some z from hf)
  | succ n ih => intro l1 l2 l4 l5 l6 m  hf; exact wX9_owesOf_b80 E z  _  ih l1 l2 l4 l5 l6 m  hf
theorem wX9_owesOf_b60 (E : pEv) (z : Int32 × pMem) (t0 : Int32) (m : pMem) (hf : sX9_owesOf_b60 t0 m = some z) : gM E kX9_owesOf z 60 [] [.int t0] m := by
  unfold sX9_owesOf_b60 at hf
  exact g_ret dX9_owesOf_60 rfl rfl (Option.some.inj hf).symm
theorem wX9_owesOf_b0 (E : pEv) (z : Int32 × pMem) (a1 : Int32) (a2 : Int32) (a3 : Int32) (a4 : Int32) (m : pMem) (hf : sX9_owesOf a1 a2 a3 a4 m = some z) : gM E kX9_owesOf z 0 [(0, .ref (eA E 9)), (1, .int a1), (2, .int a2), (3, .int a3), (4, .int a4)] [] m := by
  unfold sX9_owesOf at hf
  refine g_iload_n (q := 3) dX9_owesOf_0 rfl rfl ?_
  refine g_aload_n (q := 0) dX9_owesOf_1 rfl rfl ?_
  refine g_get dX9_owesOf_2 fX9_117 (obX9 E m) (gvX9_50 E m) ?_
  refine g_iload_n (q := 1) dX9_owesOf_5 rfl rfl ?_
  obtain ⟨h1, hf⟩ := gd_ hf
  refine g_iald dX9_owesOf_6 ar_98 h1 ?_
  refine g_icmp_ge (tgt := 12) dX9_owesOf_7 (by decide) (fun c2 => ?_) (fun c2 => ?_)
  · have hf := it_ hf c2
    refine g_aload_n (q := 0) dX9_owesOf_12 rfl rfl ?_
    refine g_iload_n (q := 3) dX9_owesOf_13 rfl rfl ?_
    obtain ⟨r3, q4, hf⟩ := cbR_ hf
    refine g_cV (As := [.int a3]) dX9_owesOf_14 (tX9_doneBy E m a3 q4) gyX9_doneBy giX9_doneBy gsX9_doneBy mX9_183 (⟨rfl, rfl, Nat.le_of_ble_eq_true rfl, Nat.le_of_ble_eq_true rfl, Nat.le_of_ble_eq_true rfl, Nat.le_of_ble_eq_true rfl⟩) rfl (obX9 E m) rfl rfl rfl (Nat.le_of_ble_eq_true rfl) ?_
    refine g_istore dX9_owesOf_17 (Nat.le_of_ble_eq_true rfl) rfl ?_
    refine g_aload_n (q := 1) dX9_owesOf_19 rfl rfl ?_
    refine g_get dX9_owesOf_20 fX9_114 (obX9 E m) (gvX9_49 E m) ?_
    refine g_iload_n (q := 2) dX9_owesOf_23 rfl rfl ?_
    obtain ⟨h5, hf⟩ := gd_ hf
    refine g_iald dX9_owesOf_24 ar_97 h5 ?_
    refine g_iconst (v := (-1)) dX9_owesOf_25 kI_m1 ?_
    refine g_icmp_eq (tgt := 61) dX9_owesOf_26 (by decide) (fun c6 => ?_) (fun c6 => ?_)
    · have hf := it_ hf c6
      refine g_aload_n (q := 1) dX9_owesOf_61 rfl rfl ?_
      refine g_aload_n (q := 1) dX9_owesOf_62 rfl rfl ?_
      refine g_get dX9_owesOf_63 fX9_108 (obX9 E m) (gvX9_47 E m) ?_
      refine g_iload_n (q := 2) dX9_owesOf_66 rfl rfl ?_
      obtain ⟨h7, hf⟩ := gd_ hf
      refine g_iald dX9_owesOf_67 ar_95 h7 ?_
      refine g_aload_n (q := 1) dX9_owesOf_68 rfl rfl ?_
      refine g_get dX9_owesOf_69 fX9_111 (obX9 E m) (gvX9_48 E m) ?_
      refine g_iload_n (q := 2) dX9_owesOf_72 rfl rfl ?_
      obtain ⟨h8, hf⟩ := gd_ hf
      refine g_iald dX9_owesOf_73 ar_96 h8 ?_
      obtain ⟨r9, m11, q10, hf⟩ := cbE_ hf
      refine g_cVv (As := [.int (m.1 95 a1.toNatClampNeg), .int (m.1 96 a1.toNatClampNeg)]) dX9_owesOf_74 (tX9_beginPart E m (m.1 95 a1.toNatClampNeg) (m.1 96 a1.toNatClampNeg) q10) gyX9_beginPart giX9_beginPart gsX9_beginPart mX9_334 (⟨rfl, rfl, Nat.le_of_ble_eq_true rfl, Nat.le_of_ble_eq_true rfl, Nat.le_of_ble_eq_true rfl, Nat.le_of_ble_eq_true rfl⟩) rfl (obX9 E m) rfl rfl rfl (Nat.le_of_ble_eq_true rfl) ?_
      refine g_iconst (v := 0) dX9_owesOf_77 kI_0 ?_
      refine g_istore dX9_owesOf_78 (Nat.le_of_ble_eq_true rfl) rfl ?_
      refine g_lv [2, 3, 4, 6, 1, 0] rfl ?_
      exact wX9_owesOf_l80 E z  5000 a1 a2 a4 r3 0 m11 hf
    · have hf := ie_ hf c6
      refine g_aload_n (q := 1) dX9_owesOf_29 rfl rfl ?_
      refine g_get dX9_owesOf_30 fX9_44 (obX9 E m) (gvX9_13 E m) ?_
      refine g_bipush (v := 8) dX9_owesOf_33 kB_8 ?_
      refine g_iload (q := 0) dX9_owesOf_35 rfl ?_
      refine g_imul dX9_owesOf_37 ?_
      refine g_aload_n (q := 1) dX9_owesOf_38 rfl rfl ?_
      refine g_get dX9_owesOf_39 fX9_114 (obX9 E m) (gvX9_49 E m) ?_
      refine g_iload_n (q := 2) dX9_owesOf_42 rfl rfl ?_
      obtain ⟨h12, hf⟩ := gd_ hf
      refine g_iald dX9_owesOf_43 ar_97 h12 ?_
      refine g_iadd dX9_owesOf_44 ?_
      obtain ⟨h13, hf⟩ := gd_ hf
      refine g_iald dX9_owesOf_45 ar_74 h13 ?_
      refine g_iload_n (q := 3) dX9_owesOf_46 rfl rfl ?_
      refine g_icmp_ne (tgt := 59) dX9_owesOf_47 (by decide) (fun c14 => ?_) (fun c14 => ?_)
      · have hf := it_ hf c14
        refine g_iconst (v := 0) dX9_owesOf_59 kI_0 ?_
        refine g_lv [] rfl ?_
        exact wX9_owesOf_b60 E z  0 m hf
      · have hf := ie_ hf (not_not_intro c14)
        refine g_aload_n (q := 1) dX9_owesOf_50 rfl rfl ?_
        refine g_get dX9_owesOf_51 fX9_111 (obX9 E m) (gvX9_48 E m) ?_
        refine g_iload_n (q := 2) dX9_owesOf_54 rfl rfl ?_
        obtain ⟨h15, hf⟩ := gd_ hf
        refine g_iald dX9_owesOf_55 ar_96 h15 ?_
        refine g_goto (tgt := 60) dX9_owesOf_56 (by decide) ?_
        refine g_lv [] rfl ?_
        exact wX9_owesOf_b60 E z  (m.1 96 a1.toNatClampNeg) m hf
  · have hf := ie_ hf c2
    refine g_iconst (v := 0) dX9_owesOf_10 kI_0 ?_
    exact g_ret dX9_owesOf_11 rfl rfl (Option.some.inj hf).symm
theorem tX9_owesOf (E : pEv) (m : pMem) (a1 : Int32) (a2 : Int32) (a3 : Int32) (a4 : Int32) {z : Int32 × pMem} (hf : sX9_owesOf a1 a2 a3 a4 m = some z) : gCn E yX9_owesOf kX9_owesOf [.ref (eA E 9), .int a1, .int a2, .int a3, .int a4] m z := gCn_of (by decide +kernel) rfl rfl rfl (Nat.le_of_ble_eq_true rfl) rfl (wX9_owesOf_b0 E z a1 a2 a3 a4 m  hf)
theorem wX9_ownsOf_b93 (E : pEv) (z : Int32 × pMem) (k57 : Int32 → Int32 → Int32 → Int32 → Int32 → pMem → gO) (ih57 : ∀ (l1 : Int32) (l2 : Int32) (l4 : Int32) (l5 : Int32) (l6 : Int32)  (m : pMem), k57 l1 l2 l4 l5 l6 m = some z → gM E kX9_ownsOf z 57 [(0, .ref (eA E 9)), (1, .int l1), (2, .int l2), (4, .int l4), (5, .int l5), (6, .int l6)] [] m) (l1 : Int32) (l2 : Int32) (l4 : Int32) (l5 : Int32) (l6 : Int32) (m : pMem) (hf : sX9_ownsOf_b93 k57 l1 l2 l4 l5 l6 m = some z) : gM E kX9_ownsOf z 93 [(0, .ref (eA E 9)), (1, .int l1), (2, .int l2), (4, .int l4), (5, .int l5), (6, .int l6)] [] m := by
  unfold sX9_ownsOf_b93 at hf
  refine g_iinc (q := 5) (v := l6 + 1) dX9_ownsOf_93 rfl (by rw [kI_1]) (Nat.le_of_ble_eq_true rfl) rfl ?_
  refine g_goto (tgt := 57) dX9_ownsOf_96 (by decide) ?_
  refine g_lv [1, 2, 3, 4, 5, 0] rfl ?_
  exact ih57 l1 l2 l4 l5 (l6 + 1) m hf
theorem wX9_ownsOf_b57 (E : pEv) (z : Int32 × pMem) (k57 : Int32 → Int32 → Int32 → Int32 → Int32 → pMem → gO) (ih57 : ∀ (l1 : Int32) (l2 : Int32) (l4 : Int32) (l5 : Int32) (l6 : Int32)  (m : pMem), k57 l1 l2 l4 l5 l6 m = some z → gM E kX9_ownsOf z 57 [(0, .ref (eA E 9)), (1, .int l1), (2, .int l2), (4, .int l4), (5, .int l5), (6, .int l6)] [] m) (l1 : Int32) (l2 : Int32) (l4 : Int32) (l5 : Int32) (l6 : Int32) (m : pMem) (hf : sX9_ownsOf_b57 k57 l1 l2 l4 l5 l6 m = some z) : gM E kX9_ownsOf z 57 [(0, .ref (eA E 9)), (1, .int l1), (2, .int l2), (4, .int l4), (5, .int l5), (6, .int l6)] [] m := by
  unfold sX9_ownsOf_b57 at hf
  refine g_iload (q := 5) dX9_ownsOf_57 rfl ?_
  refine g_iload (q := 4) dX9_ownsOf_59 rfl ?_
  refine g_icmp_ge (tgt := 99) dX9_ownsOf_61 (by decide) (fun c12 => ?_) (fun c12 => ?_)
  · have hf := it_ hf c12
    refine g_aload_n (q := 0) dX9_ownsOf_99 rfl rfl ?_
    refine g_get dX9_ownsOf_100 fX9_138 (obX9 E m) (gvX9_59 E m) ?_
    refine g_iload_n (q := 2) dX9_ownsOf_103 rfl rfl ?_
    obtain ⟨h13, hf⟩ := gd_ hf
    refine g_iald dX9_ownsOf_104 ar_105 h13 ?_
    exact g_ret dX9_ownsOf_105 rfl rfl (Option.some.inj hf).symm
  · have hf := ie_ hf c12
    refine g_aload_n (q := 0) dX9_ownsOf_64 rfl rfl ?_
    refine g_get dX9_ownsOf_65 fX9_120 (obX9 E m) (gvX9_52 E m) ?_
    refine g_iload_n (q := 1) dX9_ownsOf_68 rfl rfl ?_
    obtain ⟨h14, hf⟩ := gd_ hf
    refine g_iald dX9_ownsOf_69 ar_99 h14 ?_
    refine g_iconst (v := 1) dX9_ownsOf_70 kI_1 ?_
    refine g_icmp_ne (tgt := 85) dX9_ownsOf_71 (by decide) (fun c15 => ?_) (fun c15 => ?_)
    · have hf := it_ hf c15
      refine g_aload_n (q := 0) dX9_ownsOf_85 rfl rfl ?_
      refine g_iload (q := 5) dX9_ownsOf_86 rfl ?_
      refine g_iload (q := 3) dX9_ownsOf_88 rfl ?_
      obtain ⟨r16, m18, q17, hf⟩ := cbE_ hf
      refine g_cVv (As := [.int l6, .int l4]) dX9_ownsOf_90 (tX9_abroadAt E m l6 l4 q17) gyX9_abroadAt giX9_abroadAt gsX9_abroadAt mX9_348 (⟨rfl, rfl, Nat.le_of_ble_eq_true rfl, Nat.le_of_ble_eq_true rfl, Nat.le_of_ble_eq_true rfl, Nat.le_of_ble_eq_true rfl⟩) rfl (obX9 E m) rfl rfl rfl (Nat.le_of_ble_eq_true rfl) ?_
      exact wX9_ownsOf_b93 E z k57 ih57 l1 l2 l4 l5 l6 m18 hf
    · have hf := ie_ hf (not_not_intro c15)
      refine g_aload_n (q := 0) dX9_ownsOf_74 rfl rfl ?_
      refine g_iload (q := 5) dX9_ownsOf_75 rfl ?_
      refine g_iload (q := 3) dX9_ownsOf_77 rfl ?_
      obtain ⟨r19, m21, q20, hf⟩ := cbE_ hf
      refine g_cVv (As := [.int l6, .int l4]) dX9_ownsOf_79 (tX9_shareAt E m l6 l4 q20) gyX9_shareAt giX9_shareAt gsX9_shareAt mX9_338 (⟨rfl, rfl, Nat.le_of_ble_eq_true rfl, Nat.le_of_ble_eq_true rfl, Nat.le_of_ble_eq_true rfl, Nat.le_of_ble_eq_true rfl⟩) rfl (obX9 E m) rfl rfl rfl (Nat.le_of_ble_eq_true rfl) ?_
      refine g_goto (tgt := 93) dX9_ownsOf_82 (by decide) ?_
      exact wX9_ownsOf_b93 E z k57 ih57 l1 l2 l4 l5 l6 m21 hf
theorem wX9_ownsOf_l57 (E : pEv) (z : Int32 × pMem) : ∀ (n : Nat) (l1 : Int32) (l2 : Int32) (l4 : Int32) (l5 : Int32) (l6 : Int32) (m : pMem), sX9_ownsOf_l57 n l1 l2 l4 l5 l6 m = some z → gM E kX9_ownsOf z 57 [(0, .ref (eA E 9)), (1, .int l1), (2, .int l2), (4, .int l4), (5, .int l5), (6, .int l6)] [] m := by
  intro n
  induction n with
  | zero => intro l1 l2 l4 l5 l6 m  hf; cases (show (none : Option _) = some z from hf)
  | succ n ih => intro l1 l2 l4 l5 l6 m  hf; exact wX9_ownsOf_b57 E z  _  ih l1 l2 l4 l5 l6 m  hf
theorem wX9_ownsOf_b42 (E : pEv) (z : Int32 × pMem) (t0 : Int32) (m : pMem) (hf : sX9_ownsOf_b42 t0 m = some z) : gM E kX9_ownsOf z 42 [] [.int t0] m := by
  unfold sX9_ownsOf_b42 at hf
  exact g_ret dX9_ownsOf_42 rfl rfl (Option.some.inj hf).symm
theorem wX9_ownsOf_b0 (E : pEv) (z : Int32 × pMem) (a1 : Int32) (a2 : Int32) (a3 : Int32) (a4 : Int32) (m : pMem) (hf : sX9_ownsOf a1 a2 a3 a4 m = some z) : gM E kX9_ownsOf z 0 [(0, .ref (eA E 9)), (1, .int a1), (2, .int a2), (3, .int a3), (4, .int a4)] [] m := by
  unfold sX9_ownsOf at hf
  refine g_aload_n (q := 0) dX9_ownsOf_0 rfl rfl ?_
  refine g_iload_n (q := 3) dX9_ownsOf_1 rfl rfl ?_
  obtain ⟨r1, q2, hf⟩ := cbR_ hf
  refine g_cV (As := [.int a3]) dX9_ownsOf_2 (tX9_doneBy E m a3 q2) gyX9_doneBy giX9_doneBy gsX9_doneBy mX9_183 (⟨rfl, rfl, Nat.le_of_ble_eq_true rfl, Nat.le_of_ble_eq_true rfl, Nat.le_of_ble_eq_true rfl, Nat.le_of_ble_eq_true rfl⟩) rfl (obX9 E m) rfl rfl rfl (Nat.le_of_ble_eq_true rfl) ?_
  refine g_istore dX9_ownsOf_5 (Nat.le_of_ble_eq_true rfl) rfl ?_
  refine g_aload_n (q := 1) dX9_ownsOf_7 rfl rfl ?_
  refine g_get dX9_ownsOf_8 fX9_120 (obX9 E m) (gvX9_52 E m) ?_
  refine g_iload_n (q := 2) dX9_ownsOf_11 rfl rfl ?_
  obtain ⟨h3, hf⟩ := gd_ hf
  refine g_iald dX9_ownsOf_12 ar_99 h3 ?_
  refine g_if_ne (tgt := 43) dX9_ownsOf_13 (by decide) (fun c4 => ?_) (fun c4 => ?_)
  · have hf := it_ hf c4
    refine g_aload_n (q := 1) dX9_ownsOf_43 rfl rfl ?_
    refine g_iconst (v := 0) dX9_ownsOf_44 kI_0 ?_
    refine g_aload_n (q := 1) dX9_ownsOf_45 rfl rfl ?_
    refine g_get dX9_ownsOf_46 fX9_123 (obX9 E m) (gvX9_53 E m) ?_
    refine g_iload_n (q := 2) dX9_ownsOf_49 rfl rfl ?_
    obtain ⟨h5, hf⟩ := gd_ hf
    refine g_iald dX9_ownsOf_50 ar_100 h5 ?_
    obtain ⟨r6, m8, q7, hf⟩ := cbE_ hf
    refine g_cVv (As := [.int 0, .int (m.1 100 a1.toNatClampNeg)]) dX9_ownsOf_51 (tX9_beginPart E m 0 (m.1 100 a1.toNatClampNeg) q7) gyX9_beginPart giX9_beginPart gsX9_beginPart mX9_334 (⟨rfl, rfl, Nat.le_of_ble_eq_true rfl, Nat.le_of_ble_eq_true rfl, Nat.le_of_ble_eq_true rfl, Nat.le_of_ble_eq_true rfl⟩) rfl (obX9 E m) rfl rfl rfl (Nat.le_of_ble_eq_true rfl) ?_
    refine g_iconst (v := 0) dX9_ownsOf_54 kI_0 ?_
    refine g_istore dX9_ownsOf_55 (Nat.le_of_ble_eq_true rfl) rfl ?_
    refine g_lv [2, 3, 4, 6, 1, 0] rfl ?_
    exact wX9_ownsOf_l57 E z  5000 a1 a2 a4 r1 0 m8 hf
  · have hf := ie_ hf (not_not_intro c4)
    refine g_aload_n (q := 1) dX9_ownsOf_16 rfl rfl ?_
    refine g_get dX9_ownsOf_17 fX9_44 (obX9 E m) (gvX9_13 E m) ?_
    refine g_bipush (v := 8) dX9_ownsOf_20 kB_8 ?_
    refine g_iload (q := 0) dX9_ownsOf_22 rfl ?_
    refine g_imul dX9_ownsOf_24 ?_
    refine g_aload_n (q := 1) dX9_ownsOf_25 rfl rfl ?_
    refine g_get dX9_ownsOf_26 fX9_126 (obX9 E m) (gvX9_54 E m) ?_
    refine g_iload_n (q := 2) dX9_ownsOf_29 rfl rfl ?_
    obtain ⟨h9, hf⟩ := gd_ hf
    refine g_iald dX9_ownsOf_30 ar_101 h9 ?_
    refine g_iadd dX9_ownsOf_31 ?_
    obtain ⟨h10, hf⟩ := gd_ hf
    refine g_iald dX9_ownsOf_32 ar_74 h10 ?_
    refine g_iload_n (q := 3) dX9_ownsOf_33 rfl rfl ?_
    refine g_icmp_ne (tgt := 41) dX9_ownsOf_34 (by decide) (fun c11 => ?_) (fun c11 => ?_)
    · have hf := it_ hf c11
      refine g_iconst (v := 0) dX9_ownsOf_41 kI_0 ?_
      refine g_lv [] rfl ?_
      exact wX9_ownsOf_b42 E z  0 m hf
    · have hf := ie_ hf (not_not_intro c11)
      refine g_iconst (v := 1) dX9_ownsOf_37 kI_1 ?_
      refine g_goto (tgt := 42) dX9_ownsOf_38 (by decide) ?_
      refine g_lv [] rfl ?_
      exact wX9_ownsOf_b42 E z  1 m hf
theorem tX9_ownsOf (E : pEv) (m : pMem) (a1 : Int32) (a2 : Int32) (a3 : Int32) (a4 : Int32) {z : Int32 × pMem} (hf : sX9_ownsOf a1 a2 a3 a4 m = some z) : gCn E yX9_ownsOf kX9_ownsOf [.ref (eA E 9), .int a1, .int a2, .int a3, .int a4] m z := gCn_of (by decide +kernel) rfl rfl rfl (Nat.le_of_ble_eq_true rfl) rfl (wX9_ownsOf_b0 E z a1 a2 a3 a4 m  hf)
theorem wX9_burdenOf_b72 (E : pEv) (z : Int32 × pMem) (k38 : Int32 → Int32 → Int32 → Int32 → Int32 → pMem → gO) (ih38 : ∀ (l1 : Int32) (l2 : Int32) (l3 : Int32) (l4 : Int32) (l5 : Int32)  (m : pMem), k38 l1 l2 l3 l4 l5 m = some z → gM E kX9_burdenOf z 38 [(0, .ref (eA E 9)), (1, .int l1), (2, .int l2), (3, .int l3), (4, .int l4), (5, .int l5)] [] m) (l1 : Int32) (l2 : Int32) (l3 : Int32) (l5 : Int32) (t0 : Int32) (t1 : Int32) (m : pMem) (hf : sX9_burdenOf_b72 k38 l1 l2 l3 l5 t0 t1 m = some z) : gM E kX9_burdenOf z 72 [(0, .ref (eA E 9)), (1, .int l1), (2, .int l2), (3, .int l3), (5, .int l5)] [.int t0, .int t1] m := by
  unfold sX9_burdenOf_b72 at hf
  refine g_isub dX9_burdenOf_72 ?_
  refine nmI hf (fun x12 hf => ?_)
  refine g_istore dX9_burdenOf_73 (Nat.le_of_ble_eq_true rfl) rfl ?_
  refine g_iinc (q := 5) (v := l5 + 1) dX9_burdenOf_75 rfl (by rw [kI_1]) (Nat.le_of_ble_eq_true rfl) rfl ?_
  refine g_goto (tgt := 38) dX9_burdenOf_78 (by decide) ?_
  refine g_lv [2, 3, 4, 5, 1, 0] rfl ?_
  exact ih38 l1 l2 l3 x12 (l5 + 1) m hf
theorem wX9_burdenOf_b38 (E : pEv) (z : Int32 × pMem) (k38 : Int32 → Int32 → Int32 → Int32 → Int32 → pMem → gO) (ih38 : ∀ (l1 : Int32) (l2 : Int32) (l3 : Int32) (l4 : Int32) (l5 : Int32)  (m : pMem), k38 l1 l2 l3 l4 l5 m = some z → gM E kX9_burdenOf z 38 [(0, .ref (eA E 9)), (1, .int l1), (2, .int l2), (3, .int l3), (4, .int l4), (5, .int l5)] [] m) (l1 : Int32) (l2 : Int32) (l3 : Int32) (l4 : Int32) (l5 : Int32) (m : pMem) (hf : sX9_burdenOf_b38 k38 l1 l2 l3 l4 l5 m = some z) : gM E kX9_burdenOf z 38 [(0, .ref (eA E 9)), (1, .int l1), (2, .int l2), (3, .int l3), (4, .int l4), (5, .int l5)] [] m := by
  unfold sX9_burdenOf_b38 at hf
  refine g_iload (q := 5) dX9_burdenOf_38 rfl ?_
  refine g_aload_n (q := 0) dX9_burdenOf_40 rfl rfl ?_
  refine g_get dX9_burdenOf_41 fX9_345 (obX9 E m) (gvX9_51 E m) ?_
  refine g_icmp_ge (tgt := 81) dX9_burdenOf_44 (by decide) (fun c6 => ?_) (fun c6 => ?_)
  · have hf := it_ hf c6
    refine g_iload (q := 4) dX9_burdenOf_81 rfl ?_
    exact g_ret dX9_burdenOf_83 rfl rfl (Option.some.inj hf).symm
  · have hf := ie_ hf c6
    refine g_iload (q := 4) dX9_burdenOf_47 rfl ?_
    refine g_aload_n (q := 0) dX9_burdenOf_49 rfl rfl ?_
    refine g_get dX9_burdenOf_50 fX9_120 (obX9 E m) (gvX9_52 E m) ?_
    refine g_iload (q := 5) dX9_burdenOf_53 rfl ?_
    obtain ⟨h7, hf⟩ := gd_ hf
    refine g_iald dX9_burdenOf_55 ar_99 h7 ?_
    refine g_if_ne (tgt := 63) dX9_burdenOf_56 (by decide) (fun c8 => ?_) (fun c8 => ?_)
    · have hf := it_ hf c8
      refine g_aload_n (q := 0) dX9_burdenOf_63 rfl rfl ?_
      refine g_iload (q := 5) dX9_burdenOf_64 rfl ?_
      refine g_iload_n (q := 1) dX9_burdenOf_66 rfl rfl ?_
      refine g_iload_n (q := 2) dX9_burdenOf_67 rfl rfl ?_
      refine g_iload_n (q := 3) dX9_burdenOf_68 rfl rfl ?_
      obtain ⟨r9, m11, q10, hf⟩ := cbE_ hf
      refine g_cV (As := [.int l5, .int l1, .int l2, .int l3]) dX9_burdenOf_69 (tX9_ownsOf E m l5 l1 l2 l3 q10) gyX9_ownsOf giX9_ownsOf gsX9_ownsOf mX9_351 (⟨rfl, rfl, Nat.le_of_ble_eq_true rfl, Nat.le_of_ble_eq_true rfl, Nat.le_of_ble_eq_true rfl, Nat.le_of_ble_eq_true rfl⟩) rfl (obX9 E m) rfl rfl rfl (Nat.le_of_ble_eq_true rfl) ?_
      refine g_lv [0, 1, 2, 3, 5] rfl ?_
      exact wX9_burdenOf_b72 E z k38 ih38 l1 l2 l3 l5 r9 l4 m11 hf
    · have hf := ie_ hf (not_not_intro c8)
      refine g_iconst (v := 0) dX9_burdenOf_59 kI_0 ?_
      refine g_goto (tgt := 72) dX9_burdenOf_60 (by decide) ?_
      refine g_lv [0, 1, 2, 3, 5] rfl ?_
      exact wX9_burdenOf_b72 E z k38 ih38 l1 l2 l3 l5 0 l4 m hf
theorem wX9_burdenOf_l38 (E : pEv) (z : Int32 × pMem) : ∀ (n : Nat) (l1 : Int32) (l2 : Int32) (l3 : Int32) (l4 : Int32) (l5 : Int32) (m : pMem), sX9_burdenOf_l38 n l1 l2 l3 l4 l5 m = some z → gM E kX9_burdenOf z 38 [(0, .ref (eA E 9)), (1, .int l1), (2, .int l2), (3, .int l3), (4, .int l4), (5, .int l5)] [] m := by
  intro n
  induction n with
  | zero => intro l1 l2 l3 l4 l5 m  hf; cases (show (none : Option _) = some z from hf)
  | succ n ih => intro l1 l2 l3 l4 l5 m  hf; exact wX9_burdenOf_b38 E z  _  ih l1 l2 l3 l4 l5 m  hf
theorem wX9_burdenOf_b6 (E : pEv) (z : Int32 × pMem) (k6 : Int32 → Int32 → Int32 → Int32 → Int32 → pMem → gO) (ih6 : ∀ (l1 : Int32) (l2 : Int32) (l3 : Int32) (l4 : Int32) (l5 : Int32)  (m : pMem), k6 l1 l2 l3 l4 l5 m = some z → gM E kX9_burdenOf z 6 [(0, .ref (eA E 9)), (1, .int l1), (2, .int l2), (3, .int l3), (4, .int l4), (5, .int l5)] [] m) (l1 : Int32) (l2 : Int32) (l3 : Int32) (l4 : Int32) (l5 : Int32) (m : pMem) (hf : sX9_burdenOf_b6 k6 l1 l2 l3 l4 l5 m = some z) : gM E kX9_burdenOf z 6 [(0, .ref (eA E 9)), (1, .int l1), (2, .int l2), (3, .int l3), (4, .int l4), (5, .int l5)] [] m := by
  unfold sX9_burdenOf_b6 at hf
  refine g_iload (q := 5) dX9_burdenOf_6 rfl ?_
  refine g_aload_n (q := 0) dX9_burdenOf_8 rfl rfl ?_
  refine g_get dX9_burdenOf_9 fX9_162 (obX9 E m) (gvX9_46 E m) ?_
  refine g_icmp_ge (tgt := 35) dX9_burdenOf_12 (by decide) (fun c1 => ?_) (fun c1 => ?_)
  · have hf := it_ hf c1
    refine g_iconst (v := 0) dX9_burdenOf_35 kI_0 ?_
    refine g_istore dX9_burdenOf_36 (Nat.le_of_ble_eq_true rfl) rfl ?_
    refine g_lv [1, 2, 3, 4, 5, 0] rfl ?_
    exact wX9_burdenOf_l38 E z  5000 l1 l2 l3 l4 0 m hf
  · have hf := ie_ hf c1
    refine g_iload (q := 4) dX9_burdenOf_15 rfl ?_
    refine g_aload_n (q := 0) dX9_burdenOf_17 rfl rfl ?_
    refine g_iload (q := 5) dX9_burdenOf_18 rfl ?_
    refine g_iload_n (q := 1) dX9_burdenOf_20 rfl rfl ?_
    refine g_iload_n (q := 2) dX9_burdenOf_21 rfl rfl ?_
    refine g_iload_n (q := 3) dX9_burdenOf_22 rfl rfl ?_
    obtain ⟨r2, m4, q3, hf⟩ := cbE_ hf
    refine g_cV (As := [.int l5, .int l1, .int l2, .int l3]) dX9_burdenOf_23 (tX9_owesOf E m l5 l1 l2 l3 q3) gyX9_owesOf giX9_owesOf gsX9_owesOf mX9_341 (⟨rfl, rfl, Nat.le_of_ble_eq_true rfl, Nat.le_of_ble_eq_true rfl, Nat.le_of_ble_eq_true rfl, Nat.le_of_ble_eq_true rfl⟩) rfl (obX9 E m) rfl rfl rfl (Nat.le_of_ble_eq_true rfl) ?_
    refine g_iadd dX9_burdenOf_26 ?_
    refine nmI hf (fun x5 hf => ?_)
    refine g_istore dX9_burdenOf_27 (Nat.le_of_ble_eq_true rfl) rfl ?_
    refine g_iinc (q := 5) (v := l5 + 1) dX9_burdenOf_29 rfl (by rw [kI_1]) (Nat.le_of_ble_eq_true rfl) rfl ?_
    refine g_goto (tgt := 6) dX9_burdenOf_32 (by decide) ?_
    refine g_lv [2, 3, 4, 5, 1, 0] rfl ?_
    exact ih6 l1 l2 l3 x5 (l5 + 1) m4 hf
theorem wX9_burdenOf_l6 (E : pEv) (z : Int32 × pMem) : ∀ (n : Nat) (l1 : Int32) (l2 : Int32) (l3 : Int32) (l4 : Int32) (l5 : Int32) (m : pMem), sX9_burdenOf_l6 n l1 l2 l3 l4 l5 m = some z → gM E kX9_burdenOf z 6 [(0, .ref (eA E 9)), (1, .int l1), (2, .int l2), (3, .int l3), (4, .int l4), (5, .int l5)] [] m := by
  intro n
  induction n with
  | zero => intro l1 l2 l3 l4 l5 m  hf; cases (show (none : Option _) = some z from hf)
  | succ n ih => intro l1 l2 l3 l4 l5 m  hf; exact wX9_burdenOf_b6 E z  _  ih l1 l2 l3 l4 l5 m  hf
theorem wX9_burdenOf_b0 (E : pEv) (z : Int32 × pMem) (a1 : Int32) (a2 : Int32) (a3 : Int32) (m : pMem) (hf : sX9_burdenOf a1 a2 a3 m = some z) : gM E kX9_burdenOf z 0 [(0, .ref (eA E 9)), (1, .int a1), (2, .int a2), (3, .int a3)] [] m := by
  unfold sX9_burdenOf at hf
  refine g_iconst (v := 0) dX9_burdenOf_0 kI_0 ?_
  refine g_istore dX9_burdenOf_1 (Nat.le_of_ble_eq_true rfl) rfl ?_
  refine g_iconst (v := 0) dX9_burdenOf_3 kI_0 ?_
  refine g_istore dX9_burdenOf_4 (Nat.le_of_ble_eq_true rfl) rfl ?_
  refine g_lv [2, 3, 4, 5, 1, 0] rfl ?_
  exact wX9_burdenOf_l6 E z  5000 a1 a2 a3 0 0 m hf
theorem tX9_burdenOf (E : pEv) (m : pMem) (a1 : Int32) (a2 : Int32) (a3 : Int32) {z : Int32 × pMem} (hf : sX9_burdenOf a1 a2 a3 m = some z) : gCn E yX9_burdenOf kX9_burdenOf [.ref (eA E 9), .int a1, .int a2, .int a3] m z := gCn_of (by decide +kernel) rfl rfl rfl (Nat.le_of_ble_eq_true rfl) rfl (wX9_burdenOf_b0 E z a1 a2 a3 m  hf)
theorem wX9_best_b56 (E : pEv) (z : Int32 × pMem) (k26 : Int32 → Int32 → Int32 → Int32 → pMem → gO) (ih26 : ∀ (l1 : Int32) (l2 : Int32) (l3 : Int32) (l4 : Int32)  (m : pMem), k26 l1 l2 l3 l4 m = some z → gM E kX9_best z 26 [(0, .ref (eA E 9)), (1, .int l1), (2, .int l2), (3, .int l3), (4, .int l4)] [] m) (l1 : Int32) (l2 : Int32) (l4 : Int32) (t0 : Int32) (m : pMem) (hf : sX9_best_b56 k26 l1 l2 l4 t0 m = some z) : gM E kX9_best z 56 [(0, .ref (eA E 9)), (1, .int l1), (2, .int l2), (4, .int l4)] [.int t0] m := by
  unfold sX9_best_b56 at hf
  refine g_istore_n dX9_best_56 rfl (Nat.le_of_ble_eq_true rfl) rfl ?_
  refine g_iinc (q := 4) (v := l4 + 1) dX9_best_57 rfl (by rw [kI_1]) (Nat.le_of_ble_eq_true rfl) rfl ?_
  refine g_goto (tgt := 26) dX9_best_60 (by decide) ?_
  refine g_lv [2, 3, 4, 1, 0] rfl ?_
  exact ih26 l1 l2 t0 (l4 + 1) m hf
theorem wX9_best_b26 (E : pEv) (z : Int32 × pMem) (k26 : Int32 → Int32 → Int32 → Int32 → pMem → gO) (ih26 : ∀ (l1 : Int32) (l2 : Int32) (l3 : Int32) (l4 : Int32)  (m : pMem), k26 l1 l2 l3 l4 m = some z → gM E kX9_best z 26 [(0, .ref (eA E 9)), (1, .int l1), (2, .int l2), (3, .int l3), (4, .int l4)] [] m) (l1 : Int32) (l2 : Int32) (l3 : Int32) (l4 : Int32) (m : pMem) (hf : sX9_best_b26 k26 l1 l2 l3 l4 m = some z) : gM E kX9_best z 26 [(0, .ref (eA E 9)), (1, .int l1), (2, .int l2), (3, .int l3), (4, .int l4)] [] m := by
  unfold sX9_best_b26 at hf
  refine g_iload (q := 4) dX9_best_26 rfl ?_
  refine g_iconst (v := 3) dX9_best_28 kI_3 ?_
  refine g_icmp_ge (tgt := 63) dX9_best_29 (by decide) (fun c7 => ?_) (fun c7 => ?_)
  · have hf := it_ hf c7
    refine g_iload_n (q := 3) dX9_best_63 rfl rfl ?_
    exact g_ret dX9_best_64 rfl rfl (Option.some.inj hf).symm
  · have hf := ie_ hf c7
    refine g_aload_n (q := 0) dX9_best_32 rfl rfl ?_
    refine g_iload_n (q := 1) dX9_best_33 rfl rfl ?_
    refine g_iload_n (q := 2) dX9_best_34 rfl rfl ?_
    refine g_iload (q := 4) dX9_best_35 rfl ?_
    obtain ⟨r8, m10, q9, hf⟩ := cbE_ hf
    refine g_cV (As := [.int l1, .int l2, .int l4]) dX9_best_37 (tX9_burdenOf E m l1 l2 l4 q9) gyX9_burdenOf giX9_burdenOf gsX9_burdenOf mX9_364 (⟨rfl, rfl, Nat.le_of_ble_eq_true rfl, Nat.le_of_ble_eq_true rfl, Nat.le_of_ble_eq_true rfl, Nat.le_of_ble_eq_true rfl⟩) rfl (obX9 E m) rfl rfl rfl (Nat.le_of_ble_eq_true rfl) ?_
    refine g_aload_n (q := 0) dX9_best_40 rfl rfl ?_
    refine g_iload_n (q := 1) dX9_best_41 rfl rfl ?_
    refine g_iload_n (q := 2) dX9_best_42 rfl rfl ?_
    refine g_iload_n (q := 3) dX9_best_43 rfl rfl ?_
    obtain ⟨r11, m13, q12, hf⟩ := cbE_ hf
    refine g_cV (As := [.int l1, .int l2, .int l3]) dX9_best_44 (tX9_burdenOf E m10 l1 l2 l3 q12) gyX9_burdenOf giX9_burdenOf gsX9_burdenOf mX9_364 (⟨rfl, rfl, Nat.le_of_ble_eq_true rfl, Nat.le_of_ble_eq_true rfl, Nat.le_of_ble_eq_true rfl, Nat.le_of_ble_eq_true rfl⟩) rfl (obX9 E m10) rfl rfl rfl (Nat.le_of_ble_eq_true rfl) ?_
    refine g_icmp_ge (tgt := 55) dX9_best_47 (by decide) (fun c14 => ?_) (fun c14 => ?_)
    · have hf := it_ hf c14
      refine g_iload_n (q := 3) dX9_best_55 rfl rfl ?_
      refine g_lv [0, 1, 2, 4] rfl ?_
      exact wX9_best_b56 E z k26 ih26 l1 l2 l4 l3 m13 hf
    · have hf := ie_ hf c14
      refine g_iload (q := 4) dX9_best_50 rfl ?_
      refine g_goto (tgt := 56) dX9_best_52 (by decide) ?_
      refine g_lv [0, 1, 2, 4] rfl ?_
      exact wX9_best_b56 E z k26 ih26 l1 l2 l4 l4 m13 hf
theorem wX9_best_l26 (E : pEv) (z : Int32 × pMem) : ∀ (n : Nat) (l1 : Int32) (l2 : Int32) (l3 : Int32) (l4 : Int32) (m : pMem), sX9_best_l26 n l1 l2 l3 l4 m = some z → gM E kX9_best z 26 [(0, .ref (eA E 9)), (1, .int l1), (2, .int l2), (3, .int l3), (4, .int l4)] [] m := by
  intro n
  induction n with
  | zero => intro l1 l2 l3 l4 m  hf; cases (show (none : Option _) = some z from hf)
  | succ n ih => intro l1 l2 l3 l4 m  hf; exact wX9_best_b26 E z  _  ih l1 l2 l3 l4 m  hf
theorem wX9_best_b0 (E : pEv) (z : Int32 × pMem) (a1 : Int32) (a2 : Int32) (m : pMem) (hf : sX9_best a1 a2 m = some z) : gM E kX9_best z 0 [(0, .ref (eA E 9)), (1, .int a1), (2, .int a2)] [] m := by
  unfold sX9_best at hf
  refine g_aload_n (q := 0) dX9_best_0 rfl rfl ?_
  refine g_iload_n (q := 1) dX9_best_1 rfl rfl ?_
  obtain ⟨r1, q2, hf⟩ := cbR_ hf
  refine g_cV (As := [.int a1]) dX9_best_2 (tX9_isLand E m a1 q2) gyX9_isLand giX9_isLand gsX9_isLand mX9_187 (⟨rfl, rfl, Nat.le_of_ble_eq_true rfl, Nat.le_of_ble_eq_true rfl, Nat.le_of_ble_eq_true rfl, Nat.le_of_ble_eq_true rfl⟩) rfl (obX9 E m) rfl rfl rfl (Nat.le_of_ble_eq_true rfl) ?_
  refine g_if_ne (tgt := 11) dX9_best_5 (by decide) (fun c3 => ?_) (fun c3 => ?_)
  · have hf := it_ hf c3
    refine g_iload_n (q := 2) dX9_best_11 rfl rfl ?_
    obtain ⟨r4, q5, hf⟩ := cbR_ hf
    refine g_cS (As := [.int a2]) dX9_best_12 (tX9_isDay E m a2 q5) gyX9_isDay giX9_isDay mX9_165 (⟨rfl, rfl, Nat.le_of_ble_eq_true rfl, Nat.le_of_ble_eq_true rfl, Nat.le_of_ble_eq_true rfl, Nat.le_of_ble_eq_true rfl⟩) rfl rfl rfl (Nat.le_of_ble_eq_true rfl) ?_
    refine g_if_ne (tgt := 21) dX9_best_15 (by decide) (fun c6 => ?_) (fun c6 => ?_)
    · have hf := it_ hf c6
      refine g_iconst (v := 0) dX9_best_21 kI_0 ?_
      refine g_istore_n dX9_best_22 rfl (Nat.le_of_ble_eq_true rfl) rfl ?_
      refine g_iconst (v := 1) dX9_best_23 kI_1 ?_
      refine g_istore dX9_best_24 (Nat.le_of_ble_eq_true rfl) rfl ?_
      refine g_lv [2, 3, 4, 1, 0] rfl ?_
      exact wX9_best_l26 E z  5000 a1 a2 0 1 m hf
    · have hf := ie_ hf (not_not_intro c6)
      refine g_bipush (v := (-3)) dX9_best_18 kB_m3 ?_
      exact g_ret dX9_best_20 rfl rfl (Option.some.inj hf).symm
  · have hf := ie_ hf (not_not_intro c3)
    refine g_bipush (v := (-2)) dX9_best_8 kB_m2 ?_
    exact g_ret dX9_best_10 rfl rfl (Option.some.inj hf).symm
theorem tX9_best (E : pEv) (m : pMem) (a1 : Int32) (a2 : Int32) {z : Int32 × pMem} (hf : sX9_best a1 a2 m = some z) : gCn E yX9_best kX9_best [.ref (eA E 9), .int a1, .int a2] m z := gCn_of (by decide +kernel) rfl rfl rfl (Nat.le_of_ble_eq_true rfl) rfl (wX9_best_b0 E z a1 a2 m  hf)
theorem wX9_bits_b4 (E : pEv) (z : Int32) (k4 : Int32 → Int32 → Int32 → pMem → (Option Int32)) (ih4 : ∀ (l0 : Int32) (l1 : Int32) (l2 : Int32)  (m : pMem), k4 l0 l1 l2 m = some z → gM E kX9_bits (z, m) 4 [(0, .int l0), (1, .int l1), (2, .int l2)] [] m) (l0 : Int32) (l1 : Int32) (l2 : Int32) (m : pMem) (hf : sX9_bits_b4 k4 l0 l1 l2 m = some z) : gM E kX9_bits (z, m) 4 [(0, .int l0), (1, .int l1), (2, .int l2)] [] m := by
  unfold sX9_bits_b4 at hf
  refine g_iload_n (q := 2) dX9_bits_4 rfl rfl ?_
  refine g_bipush (v := 10) dX9_bits_5 kB_10 ?_
  refine g_icmp_ge (tgt := 24) dX9_bits_7 (by decide) (fun c1 => ?_) (fun c1 => ?_)
  · have hf := it_ hf c1
    refine g_iload_n (q := 1) dX9_bits_24 rfl rfl ?_
    exact g_ret dX9_bits_25 rfl rfl (by rw [Option.some.inj hf])
  · have hf := ie_ hf c1
    refine g_iload_n (q := 1) dX9_bits_10 rfl rfl ?_
    refine g_iload_n (q := 0) dX9_bits_11 rfl rfl ?_
    refine g_iload_n (q := 2) dX9_bits_12 rfl rfl ?_
    refine g_ishr dX9_bits_13 ?_
    refine g_iconst (v := 1) dX9_bits_14 kI_1 ?_
    refine g_iand dX9_bits_15 ?_
    refine g_iadd dX9_bits_16 ?_
    refine nmI hf (fun x2 hf => ?_)
    refine g_istore_n dX9_bits_17 rfl (Nat.le_of_ble_eq_true rfl) rfl ?_
    refine g_iinc (q := 2) (v := l2 + 1) dX9_bits_18 rfl (by rw [kI_1]) (Nat.le_of_ble_eq_true rfl) rfl ?_
    refine g_goto (tgt := 4) dX9_bits_21 (by decide) ?_
    refine g_lv [2, 1, 0] rfl ?_
    exact ih4 l0 x2 (l2 + 1) m hf
theorem wX9_bits_l4 (E : pEv) (z : Int32) : ∀ (n : Nat) (l0 : Int32) (l1 : Int32) (l2 : Int32) (m : pMem), sX9_bits_l4 n l0 l1 l2 m = some z → gM E kX9_bits (z, m) 4 [(0, .int l0), (1, .int l1), (2, .int l2)] [] m := by
  intro n
  induction n with
  | zero => intro l0 l1 l2 m  hf; cases (show (none : Option _) = some z from hf)
  | succ n ih => intro l0 l1 l2 m  hf; exact wX9_bits_b4 E z  _  ih l0 l1 l2 m  hf
theorem wX9_bits_b0 (E : pEv) (z : Int32) (a1 : Int32) (m : pMem) (hf : sX9_bits a1 m = some z) : gM E kX9_bits (z, m) 0 [(0, .int a1)] [] m := by
  unfold sX9_bits at hf
  refine g_iconst (v := 0) dX9_bits_0 kI_0 ?_
  refine g_istore_n dX9_bits_1 rfl (Nat.le_of_ble_eq_true rfl) rfl ?_
  refine g_iconst (v := 0) dX9_bits_2 kI_0 ?_
  refine g_istore_n dX9_bits_3 rfl (Nat.le_of_ble_eq_true rfl) rfl ?_
  refine g_lv [2, 1, 0] rfl ?_
  exact wX9_bits_l4 E z  5000 a1 0 0 m hf
theorem tX9_bits (E : pEv) (m : pMem) (a1 : Int32) {z : Int32} (hf : sX9_bits a1 m = some z) : gCn E yX9_bits kX9_bits [.int a1] m (z, m) := gCn_of (by decide +kernel) rfl rfl rfl (Nat.le_of_ble_eq_true rfl) rfl (wX9_bits_b0 E z a1 m  hf)
theorem wX9_isPact_b0 (E : pEv) (z : Int32) (a1 : Int32) (m : pMem) (hf : sX9_isPact a1 m = some z) : gM E kX9_isPact (z, m) 0 [(0, .ref (eA E 9)), (1, .int a1)] [] m := by
  unfold sX9_isPact at hf
  refine g_iload_n (q := 1) dX9_isPact_0 rfl rfl ?_
  refine g_iconst (v := 0) dX9_isPact_1 kI_0 ?_
  refine g_aload_n (q := 0) dX9_isPact_2 rfl rfl ?_
  refine g_get dX9_isPact_3 fX9_159 (obX9 E m) (gvX9_26 E m) ?_
  refine g_iconst (v := 1) dX9_isPact_6 kI_1 ?_
  refine g_isub dX9_isPact_7 ?_
  obtain ⟨r1, q2, hf⟩ := cbR_ hf
  refine g_cS (As := [.int a1, .int 0, .int ((m.1 9 26) - (1 : Int32))]) dX9_isPact_8 (tX9_in E m a1 0 ((m.1 9 26) - (1 : Int32)) q2) gyX9_in giX9_in mX9_148 (⟨rfl, rfl, Nat.le_of_ble_eq_true rfl, Nat.le_of_ble_eq_true rfl, Nat.le_of_ble_eq_true rfl, Nat.le_of_ble_eq_true rfl⟩) rfl rfl rfl (Nat.le_of_ble_eq_true rfl) ?_
  exact g_retz dX9_isPact_11 rfl (by rw [Option.some.inj hf])
theorem tX9_isPact (E : pEv) (m : pMem) (a1 : Int32) {z : Int32} (hf : sX9_isPact a1 m = some z) : gCn E yX9_isPact kX9_isPact [.ref (eA E 9), .int a1] m (z, m) := gCn_of (by decide +kernel) rfl rfl rfl (Nat.le_of_ble_eq_true rfl) rfl (wX9_isPact_b0 E z a1 m  hf)
theorem wX9_isThere_b29 (E : pEv) (z : Int32) (t0 : Int32) (m : pMem) (hf : sX9_isThere_b29 t0 m = some z) : gM E kX9_isThere (z, m) 29 [] [.int t0] m := by
  unfold sX9_isThere_b29 at hf
  exact g_retz dX9_isThere_29 rfl (by rw [Option.some.inj hf])
theorem wX9_isThere_b28 (E : pEv) (z : Int32) (m : pMem) (hf : sX9_isThere_b28  m = some z) : gM E kX9_isThere (z, m) 28 [] [] m := by
  unfold sX9_isThere_b28 at hf
  refine g_iconst (v := 0) dX9_isThere_28 kI_0 ?_
  exact wX9_isThere_b29 E z  0 m hf
theorem wX9_isThere_b0 (E : pEv) (z : Int32) (a1 : Int32) (a2 : Int32) (m : pMem) (hf : sX9_isThere a1 a2 m = some z) : gM E kX9_isThere (z, m) 0 [(0, .ref (eA E 9)), (1, .int a1), (2, .int a2)] [] m := by
  unfold sX9_isThere at hf
  refine g_iload_n (q := 1) dX9_isThere_0 rfl rfl ?_
  refine g_iconst (v := 0) dX9_isThere_1 kI_0 ?_
  refine g_bipush (v := 9) dX9_isThere_2 kB_9 ?_
  obtain ⟨r1, q2, hf⟩ := cbR_ hf
  refine g_cS (As := [.int a1, .int 0, .int 9]) dX9_isThere_4 (tX9_in E m a1 0 9 q2) gyX9_in giX9_in mX9_148 (⟨rfl, rfl, Nat.le_of_ble_eq_true rfl, Nat.le_of_ble_eq_true rfl, Nat.le_of_ble_eq_true rfl, Nat.le_of_ble_eq_true rfl⟩) rfl rfl rfl (Nat.le_of_ble_eq_true rfl) ?_
  refine g_if_eq (tgt := 28) dX9_isThere_7 (by decide) (fun c3 => ?_) (fun c3 => ?_)
  · have hf := it_ hf c3
    refine g_lv [] rfl ?_
    exact wX9_isThere_b28 E z  m hf
  · have hf := ie_ hf c3
    refine g_aload_n (q := 0) dX9_isThere_10 rfl rfl ?_
    refine g_get dX9_isThere_11 fX9_47 (obX9 E m) (gvX9_14 E m) ?_
    refine g_iload_n (q := 2) dX9_isThere_14 rfl rfl ?_
    obtain ⟨h4, hf⟩ := gd_ hf
    refine g_iald dX9_isThere_15 ar_75 h4 ?_
    refine g_iload_n (q := 1) dX9_isThere_16 rfl rfl ?_
    refine g_ishr dX9_isThere_17 ?_
    refine g_iconst (v := 1) dX9_isThere_18 kI_1 ?_
    refine g_iand dX9_isThere_19 ?_
    refine g_iconst (v := 1) dX9_isThere_20 kI_1 ?_
    refine g_icmp_ne (tgt := 28) dX9_isThere_21 (by decide) (fun c5 => ?_) (fun c5 => ?_)
    · have hf := it_ hf c5
      refine g_lv [] rfl ?_
      exact wX9_isThere_b28 E z  m hf
    · have hf := ie_ hf (not_not_intro c5)
      refine g_iconst (v := 1) dX9_isThere_24 kI_1 ?_
      refine g_goto (tgt := 29) dX9_isThere_25 (by decide) ?_
      refine g_lv [] rfl ?_
      exact wX9_isThere_b29 E z  1 m hf
theorem tX9_isThere (E : pEv) (m : pMem) (a1 : Int32) (a2 : Int32) {z : Int32} (hf : sX9_isThere a1 a2 m = some z) : gCn E yX9_isThere kX9_isThere [.ref (eA E 9), .int a1, .int a2] m (z, m) := gCn_of (by decide +kernel) rfl rfl rfl (Nat.le_of_ble_eq_true rfl) rfl (wX9_isThere_b0 E z a1 a2 m  hf)
theorem wX9_isRecognized_b154 (E : pEv) (z : Int32) (t0 : Int32) (m : pMem) (hf : sX9_isRecognized_b154 t0 m = some z) : gM E kX9_isRecognized (z, m) 154 [] [.int t0] m := by
  unfold sX9_isRecognized_b154 at hf
  exact g_retz dX9_isRecognized_154 rfl (by rw [Option.some.inj hf])
theorem wX9_isRecognized_b103 (E : pEv) (z : Int32) (k5 : Int32 → Int32 → Int32 → Int32 → pMem → (Option Int32)) (k18 : Int32 → Int32 → Int32 → Int32 → Int32 → Int32 → pMem → (Option Int32)) (ih5 : ∀ (l1 : Int32) (l2 : Int32) (l3 : Int32) (l4 : Int32)  (m : pMem), k5 l1 l2 l3 l4 m = some z → gM E kX9_isRecognized (z, m) 5 [(0, .ref (eA E 9)), (1, .int l1), (2, .int l2), (3, .int l3), (4, .int l4)] [] m) (ih18 : ∀ (l1 : Int32) (l2 : Int32) (l3 : Int32) (l4 : Int32) (l5 : Int32) (l6 : Int32)  (m : pMem), k18 l1 l2 l3 l4 l5 l6 m = some z → gM E kX9_isRecognized (z, m) 18 [(0, .ref (eA E 9)), (1, .int l1), (2, .int l2), (3, .int l3), (4, .int l4), (5, .int l5), (6, .int l6)] [] m) (l1 : Int32) (l2 : Int32) (l3 : Int32) (l4 : Int32) (l6 : Int32) (t0 : Int32) (m : pMem) (hf : sX9_isRecognized_b103 k5 k18 l1 l2 l3 l4 l6 t0 m = some z) : gM E kX9_isRecognized (z, m) 103 [(0, .ref (eA E 9)), (1, .int l1), (2, .int l2), (3, .int l3), (4, .int l4), (6, .int l6)] [.int t0] m := by
  unfold sX9_isRecognized_b103 at hf
  refine g_istore dX9_isRecognized_103 (Nat.le_of_ble_eq_true rfl) rfl ?_
  refine g_iinc (q := 6) (v := l6 + 1) dX9_isRecognized_105 rfl (by rw [kI_1]) (Nat.le_of_ble_eq_true rfl) rfl ?_
  refine g_goto (tgt := 18) dX9_isRecognized_108 (by decide) ?_
  refine g_lv [2, 3, 4, 5, 6, 1, 0] rfl ?_
  exact ih18 l1 l2 l3 l4 t0 (l6 + 1) m hf
theorem wX9_isRecognized_b96 (E : pEv) (z : Int32) (k5 : Int32 → Int32 → Int32 → Int32 → pMem → (Option Int32)) (k18 : Int32 → Int32 → Int32 → Int32 → Int32 → Int32 → pMem → (Option Int32)) (ih5 : ∀ (l1 : Int32) (l2 : Int32) (l3 : Int32) (l4 : Int32)  (m : pMem), k5 l1 l2 l3 l4 m = some z → gM E kX9_isRecognized (z, m) 5 [(0, .ref (eA E 9)), (1, .int l1), (2, .int l2), (3, .int l3), (4, .int l4)] [] m) (ih18 : ∀ (l1 : Int32) (l2 : Int32) (l3 : Int32) (l4 : Int32) (l5 : Int32) (l6 : Int32)  (m : pMem), k18 l1 l2 l3 l4 l5 l6 m = some z → gM E kX9_isRecognized (z, m) 18 [(0, .ref (eA E 9)), (1, .int l1), (2, .int l2), (3, .int l3), (4, .int l4), (5, .int l5), (6, .int l6)] [] m) (l1 : Int32) (l2 : Int32) (l3 : Int32) (l4 : Int32) (l6 : Int32) (m : pMem) (hf : sX9_isRecognized_b96 k5 k18 l1 l2 l3 l4 l6 m = some z) : gM E kX9_isRecognized (z, m) 96 [(0, .ref (eA E 9)), (1, .int l1), (2, .int l2), (3, .int l3), (4, .int l4), (6, .int l6)] [] m := by
  unfold sX9_isRecognized_b96 at hf
  refine g_iload (q := 5) dX9_isRecognized_96 rfl ?_
  refine g_goto (tgt := 103) dX9_isRecognized_98 (by decide) ?_
  exact wX9_isRecognized_b103 E z k5 k18 ih5 ih18 l1 l2 l3 l4 l6 l6 m hf
theorem wX9_isRecognized_b101 (E : pEv) (z : Int32) (k5 : Int32 → Int32 → Int32 → Int32 → pMem → (Option Int32)) (k18 : Int32 → Int32 → Int32 → Int32 → Int32 → Int32 → pMem → (Option Int32)) (ih5 : ∀ (l1 : Int32) (l2 : Int32) (l3 : Int32) (l4 : Int32)  (m : pMem), k5 l1 l2 l3 l4 m = some z → gM E kX9_isRecognized (z, m) 5 [(0, .ref (eA E 9)), (1, .int l1), (2, .int l2), (3, .int l3), (4, .int l4)] [] m) (ih18 : ∀ (l1 : Int32) (l2 : Int32) (l3 : Int32) (l4 : Int32) (l5 : Int32) (l6 : Int32)  (m : pMem), k18 l1 l2 l3 l4 l5 l6 m = some z → gM E kX9_isRecognized (z, m) 18 [(0, .ref (eA E 9)), (1, .int l1), (2, .int l2), (3, .int l3), (4, .int l4), (5, .int l5), (6, .int l6)] [] m) (l1 : Int32) (l2 : Int32) (l3 : Int32) (l4 : Int32) (l5 : Int32) (l6 : Int32) (m : pMem) (hf : sX9_isRecognized_b101 k5 k18 l1 l2 l3 l4 l5 l6 m = some z) : gM E kX9_isRecognized (z, m) 101 [(0, .ref (eA E 9)), (1, .int l1), (2, .int l2), (3, .int l3), (4, .int l4), (5, .int l5), (6, .int l6)] [] m := by
  unfold sX9_isRecognized_b101 at hf
  refine g_iload (q := 5) dX9_isRecognized_101 rfl ?_
  refine g_lv [0, 1, 2, 3, 4, 6] rfl ?_
  exact wX9_isRecognized_b103 E z k5 k18 ih5 ih18 l1 l2 l3 l4 l6 l5 m hf
theorem wX9_isRecognized_b66 (E : pEv) (z : Int32) (k5 : Int32 → Int32 → Int32 → Int32 → pMem → (Option Int32)) (k18 : Int32 → Int32 → Int32 → Int32 → Int32 → Int32 → pMem → (Option Int32)) (ih5 : ∀ (l1 : Int32) (l2 : Int32) (l3 : Int32) (l4 : Int32)  (m : pMem), k5 l1 l2 l3 l4 m = some z → gM E kX9_isRecognized (z, m) 5 [(0, .ref (eA E 9)), (1, .int l1), (2, .int l2), (3, .int l3), (4, .int l4)] [] m) (ih18 : ∀ (l1 : Int32) (l2 : Int32) (l3 : Int32) (l4 : Int32) (l5 : Int32) (l6 : Int32)  (m : pMem), k18 l1 l2 l3 l4 l5 l6 m = some z → gM E kX9_isRecognized (z, m) 18 [(0, .ref (eA E 9)), (1, .int l1), (2, .int l2), (3, .int l3), (4, .int l4), (5, .int l5), (6, .int l6)] [] m) (l1 : Int32) (l2 : Int32) (l3 : Int32) (l4 : Int32) (l5 : Int32) (l6 : Int32) (t0 : Int32) (m : pMem) (hf : sX9_isRecognized_b66 k5 k18 l1 l2 l3 l4 l5 l6 t0 m = some z) : gM E kX9_isRecognized (z, m) 66 [(0, .ref (eA E 9)), (1, .int l1), (2, .int l2), (3, .int l3), (4, .int l4), (5, .int l5), (6, .int l6)] [.int t0] m := by
  unfold sX9_isRecognized_b66 at hf
  refine g_istore dX9_isRecognized_66 (Nat.le_of_ble_eq_true rfl) rfl ?_
  refine g_iload (q := 0) dX9_isRecognized_68 rfl ?_
  refine g_if_eq (tgt := 101) dX9_isRecognized_70 (by decide) (fun c15 => ?_) (fun c15 => ?_)
  · have hf := it_ hf c15
    refine g_lv [1, 2, 3, 4, 5, 6, 7] rfl ?_
    exact wX9_isRecognized_b101 E z k5 k18 ih5 ih18 l1 l2 l3 l4 l5 l6 m hf
  · have hf := ie_ hf c15
    refine g_iload (q := 6) dX9_isRecognized_73 rfl ?_
    refine g_iconst (v := (-1)) dX9_isRecognized_75 kI_m1 ?_
    refine g_icmp_eq (tgt := 96) dX9_isRecognized_76 (by decide) (fun c16 => ?_) (fun c16 => ?_)
    · have hf := it_ hf c16
      refine g_lv [1, 2, 3, 4, 5, 7] rfl ?_
      exact wX9_isRecognized_b96 E z k5 k18 ih5 ih18 l1 l2 l3 l4 l6 m hf
    · have hf := ie_ hf c16
      refine g_aload_n (q := 1) dX9_isRecognized_79 rfl rfl ?_
      refine g_get dX9_isRecognized_80 fX9_96 (obX9 E m) (gvX9_42 E m) ?_
      refine g_iload (q := 7) dX9_isRecognized_83 rfl ?_
      obtain ⟨h17, hf⟩ := gd_ hf
      refine g_iald dX9_isRecognized_85 ar_91 h17 ?_
      refine g_aload_n (q := 1) dX9_isRecognized_86 rfl rfl ?_
      refine g_get dX9_isRecognized_87 fX9_96 (obX9 E m) (gvX9_42 E m) ?_
      refine g_iload (q := 6) dX9_isRecognized_90 rfl ?_
      obtain ⟨h18, hf⟩ := gd_ hf
      refine g_iald dX9_isRecognized_92 ar_91 h18 ?_
      refine g_icmp_lt (tgt := 101) dX9_isRecognized_93 (by decide) (fun c19 => ?_) (fun c19 => ?_)
      · have hf := it_ hf c19
        refine g_lv [1, 2, 3, 4, 5, 6, 7] rfl ?_
        exact wX9_isRecognized_b101 E z k5 k18 ih5 ih18 l1 l2 l3 l4 l5 l6 m hf
      · have hf := ie_ hf c19
        refine g_lv [1, 2, 3, 4, 5, 7] rfl ?_
        exact wX9_isRecognized_b96 E z k5 k18 ih5 ih18 l1 l2 l3 l4 l6 m hf
theorem wX9_isRecognized_b65 (E : pEv) (z : Int32) (k5 : Int32 → Int32 → Int32 → Int32 → pMem → (Option Int32)) (k18 : Int32 → Int32 → Int32 → Int32 → Int32 → Int32 → pMem → (Option Int32)) (ih5 : ∀ (l1 : Int32) (l2 : Int32) (l3 : Int32) (l4 : Int32)  (m : pMem), k5 l1 l2 l3 l4 m = some z → gM E kX9_isRecognized (z, m) 5 [(0, .ref (eA E 9)), (1, .int l1), (2, .int l2), (3, .int l3), (4, .int l4)] [] m) (ih18 : ∀ (l1 : Int32) (l2 : Int32) (l3 : Int32) (l4 : Int32) (l5 : Int32) (l6 : Int32)  (m : pMem), k18 l1 l2 l3 l4 l5 l6 m = some z → gM E kX9_isRecognized (z, m) 18 [(0, .ref (eA E 9)), (1, .int l1), (2, .int l2), (3, .int l3), (4, .int l4), (5, .int l5), (6, .int l6)] [] m) (l1 : Int32) (l2 : Int32) (l3 : Int32) (l4 : Int32) (l5 : Int32) (l6 : Int32) (m : pMem) (hf : sX9_isRecognized_b65 k5 k18 l1 l2 l3 l4 l5 l6 m = some z) : gM E kX9_isRecognized (z, m) 65 [(0, .ref (eA E 9)), (1, .int l1), (2, .int l2), (3, .int l3), (4, .int l4), (5, .int l5), (6, .int l6)] [] m := by
  unfold sX9_isRecognized_b65 at hf
  refine g_iconst (v := 0) dX9_isRecognized_65 kI_0 ?_
  exact wX9_isRecognized_b66 E z k5 k18 ih5 ih18 l1 l2 l3 l4 l5 l6 0 m hf
theorem wX9_isRecognized_b137 (E : pEv) (z : Int32) (k5 : Int32 → Int32 → Int32 → Int32 → pMem → (Option Int32)) (ih5 : ∀ (l1 : Int32) (l2 : Int32) (l3 : Int32) (l4 : Int32)  (m : pMem), k5 l1 l2 l3 l4 m = some z → gM E kX9_isRecognized (z, m) 5 [(0, .ref (eA E 9)), (1, .int l1), (2, .int l2), (3, .int l3), (4, .int l4)] [] m) (l1 : Int32) (l2 : Int32) (l4 : Int32) (t0 : Int32) (t1 : Int32) (m : pMem) (hf : sX9_isRecognized_b137 k5 l1 l2 l4 t0 t1 m = some z) : gM E kX9_isRecognized (z, m) 137 [(0, .ref (eA E 9)), (1, .int l1), (2, .int l2), (4, .int l4)] [.int t0, .int t1] m := by
  unfold sX9_isRecognized_b137 at hf
  refine g_iadd dX9_isRecognized_137 ?_
  refine nmI hf (fun x14 hf => ?_)
  refine g_istore_n dX9_isRecognized_138 rfl (Nat.le_of_ble_eq_true rfl) rfl ?_
  refine g_iinc (q := 4) (v := l4 + 1) dX9_isRecognized_139 rfl (by rw [kI_1]) (Nat.le_of_ble_eq_true rfl) rfl ?_
  refine g_goto (tgt := 5) dX9_isRecognized_142 (by decide) ?_
  refine g_lv [2, 3, 4, 1, 0] rfl ?_
  exact ih5 l1 l2 x14 (l4 + 1) m hf
theorem wX9_isRecognized_b18 (E : pEv) (z : Int32) (k5 : Int32 → Int32 → Int32 → Int32 → pMem → (Option Int32)) (k18 : Int32 → Int32 → Int32 → Int32 → Int32 → Int32 → pMem → (Option Int32)) (ih5 : ∀ (l1 : Int32) (l2 : Int32) (l3 : Int32) (l4 : Int32)  (m : pMem), k5 l1 l2 l3 l4 m = some z → gM E kX9_isRecognized (z, m) 5 [(0, .ref (eA E 9)), (1, .int l1), (2, .int l2), (3, .int l3), (4, .int l4)] [] m) (ih18 : ∀ (l1 : Int32) (l2 : Int32) (l3 : Int32) (l4 : Int32) (l5 : Int32) (l6 : Int32)  (m : pMem), k18 l1 l2 l3 l4 l5 l6 m = some z → gM E kX9_isRecognized (z, m) 18 [(0, .ref (eA E 9)), (1, .int l1), (2, .int l2), (3, .int l3), (4, .int l4), (5, .int l5), (6, .int l6)] [] m) (l1 : Int32) (l2 : Int32) (l3 : Int32) (l4 : Int32) (l5 : Int32) (l6 : Int32) (m : pMem) (hf : sX9_isRecognized_b18 k5 k18 l1 l2 l3 l4 l5 l6 m = some z) : gM E kX9_isRecognized (z, m) 18 [(0, .ref (eA E 9)), (1, .int l1), (2, .int l2), (3, .int l3), (4, .int l4), (5, .int l5), (6, .int l6)] [] m := by
  unfold sX9_isRecognized_b18 at hf
  refine g_iload (q := 6) dX9_isRecognized_18 rfl ?_
  refine g_aload_n (q := 0) dX9_isRecognized_20 rfl rfl ?_
  refine g_get dX9_isRecognized_21 fX9_295 (obX9 E m) (gvX9_39 E m) ?_
  refine g_icmp_ge (tgt := 111) dX9_isRecognized_24 (by decide) (fun c4 => ?_) (fun c4 => ?_)
  · have hf := it_ hf c4
    refine g_iload_n (q := 3) dX9_isRecognized_111 rfl rfl ?_
    refine g_iload (q := 5) dX9_isRecognized_112 rfl ?_
    refine g_iconst (v := (-1)) dX9_isRecognized_114 kI_m1 ?_
    refine g_icmp_ne (tgt := 122) dX9_isRecognized_115 (by decide) (fun c5 => ?_) (fun c5 => ?_)
    · have hf := it_ hf c5
      refine g_aload_n (q := 0) dX9_isRecognized_122 rfl rfl ?_
      refine g_get dX9_isRecognized_123 fX9_99 (obX9 E m) (gvX9_43 E m) ?_
      refine g_iload (q := 5) dX9_isRecognized_126 rfl ?_
      obtain ⟨h6, hf⟩ := gd_ hf
      refine g_zald dX9_isRecognized_128 ar_92 h6 ?_
      refine g_if_eq (tgt := 136) dX9_isRecognized_129 (by decide) (fun c7 => ?_) (fun c7 => ?_)
      · have hf := it_ hf c7
        refine g_iconst (v := (-1)) dX9_isRecognized_136 kI_m1 ?_
        refine g_lv [0, 1, 2, 4] rfl ?_
        exact wX9_isRecognized_b137 E z k5 ih5 l1 l2 l4 (-1) l3 m hf
      · have hf := ie_ hf c7
        refine g_iconst (v := 1) dX9_isRecognized_132 kI_1 ?_
        refine g_goto (tgt := 137) dX9_isRecognized_133 (by decide) ?_
        refine g_lv [0, 1, 2, 4] rfl ?_
        exact wX9_isRecognized_b137 E z k5 ih5 l1 l2 l4 1 l3 m hf
    · have hf := ie_ hf (not_not_intro c5)
      refine g_iconst (v := 0) dX9_isRecognized_118 kI_0 ?_
      refine g_goto (tgt := 137) dX9_isRecognized_119 (by decide) ?_
      refine g_lv [0, 1, 2, 4] rfl ?_
      exact wX9_isRecognized_b137 E z k5 ih5 l1 l2 l4 0 l3 m hf
  · have hf := ie_ hf c4
    refine g_aload_n (q := 0) dX9_isRecognized_27 rfl rfl ?_
    refine g_get dX9_isRecognized_28 fX9_90 (obX9 E m) (gvX9_40 E m) ?_
    refine g_iload (q := 6) dX9_isRecognized_31 rfl ?_
    obtain ⟨h8, hf⟩ := gd_ hf
    refine g_iald dX9_isRecognized_33 ar_89 h8 ?_
    refine g_iload (q := 4) dX9_isRecognized_34 rfl ?_
    refine g_icmp_ne (tgt := 65) dX9_isRecognized_36 (by decide) (fun c9 => ?_) (fun c9 => ?_)
    · have hf := it_ hf c9
      exact wX9_isRecognized_b65 E z k5 k18 ih5 ih18 l1 l2 l3 l4 l5 l6 m hf
    · have hf := ie_ hf (not_not_intro c9)
      refine g_aload_n (q := 0) dX9_isRecognized_39 rfl rfl ?_
      refine g_get dX9_isRecognized_40 fX9_93 (obX9 E m) (gvX9_41 E m) ?_
      refine g_iload (q := 6) dX9_isRecognized_43 rfl ?_
      obtain ⟨h10, hf⟩ := gd_ hf
      refine g_iald dX9_isRecognized_45 ar_90 h10 ?_
      refine g_iload_n (q := 1) dX9_isRecognized_46 rfl rfl ?_
      refine g_icmp_ne (tgt := 65) dX9_isRecognized_47 (by decide) (fun c11 => ?_) (fun c11 => ?_)
      · have hf := it_ hf c11
        exact wX9_isRecognized_b65 E z k5 k18 ih5 ih18 l1 l2 l3 l4 l5 l6 m hf
      · have hf := ie_ hf (not_not_intro c11)
        refine g_aload_n (q := 0) dX9_isRecognized_50 rfl rfl ?_
        refine g_get dX9_isRecognized_51 fX9_96 (obX9 E m) (gvX9_42 E m) ?_
        refine g_iload (q := 6) dX9_isRecognized_54 rfl ?_
        obtain ⟨h12, hf⟩ := gd_ hf
        refine g_iald dX9_isRecognized_56 ar_91 h12 ?_
        refine g_iload_n (q := 2) dX9_isRecognized_57 rfl rfl ?_
        refine g_icmp_gt (tgt := 65) dX9_isRecognized_58 (by decide) (fun c13 => ?_) (fun c13 => ?_)
        · have hf := it_ hf c13
          exact wX9_isRecognized_b65 E z k5 k18 ih5 ih18 l1 l2 l3 l4 l5 l6 m hf
        · have hf := ie_ hf c13
          refine g_iconst (v := 1) dX9_isRecognized_61 kI_1 ?_
          refine g_goto (tgt := 66) dX9_isRecognized_62 (by decide) ?_
          exact wX9_isRecognized_b66 E z k5 k18 ih5 ih18 l1 l2 l3 l4 l5 l6 1 m hf
theorem wX9_isRecognized_l18 (E : pEv) (z : Int32) (k5 : Int32 → Int32 → Int32 → Int32 → pMem → (Option Int32)) (ih5 : ∀ (l1 : Int32) (l2 : Int32) (l3 : Int32) (l4 : Int32)  (m : pMem), k5 l1 l2 l3 l4 m = some z → gM E kX9_isRecognized (z, m) 5 [(0, .ref (eA E 9)), (1, .int l1), (2, .int l2), (3, .int l3), (4, .int l4)] [] m) : ∀ (n : Nat) (l1 : Int32) (l2 : Int32) (l3 : Int32) (l4 : Int32) (l5 : Int32) (l6 : Int32) (m : pMem), sX9_isRecognized_l18 k5 n l1 l2 l3 l4 l5 l6 m = some z → gM E kX9_isRecognized (z, m) 18 [(0, .ref (eA E 9)), (1, .int l1), (2, .int l2), (3, .int l3), (4, .int l4), (5, .int l5), (6, .int l6)] [] m := by
  intro n
  induction n with
  | zero => intro l1 l2 l3 l4 l5 l6 m  hf; cases (show (none : Option _) = some z from hf)
  | succ n ih => intro l1 l2 l3 l4 l5 l6 m  hf; exact wX9_isRecognized_b18 E z k5 _ ih5 ih l1 l2 l3 l4 l5 l6 m  hf
theorem wX9_isRecognized_b5 (E : pEv) (z : Int32) (k5 : Int32 → Int32 → Int32 → Int32 → pMem → (Option Int32)) (ih5 : ∀ (l1 : Int32) (l2 : Int32) (l3 : Int32) (l4 : Int32)  (m : pMem), k5 l1 l2 l3 l4 m = some z → gM E kX9_isRecognized (z, m) 5 [(0, .ref (eA E 9)), (1, .int l1), (2, .int l2), (3, .int l3), (4, .int l4)] [] m) (l1 : Int32) (l2 : Int32) (l3 : Int32) (l4 : Int32) (m : pMem) (hf : sX9_isRecognized_b5 k5 l1 l2 l3 l4 m = some z) : gM E kX9_isRecognized (z, m) 5 [(0, .ref (eA E 9)), (1, .int l1), (2, .int l2), (3, .int l3), (4, .int l4)] [] m := by
  unfold sX9_isRecognized_b5 at hf
  refine g_iload (q := 4) dX9_isRecognized_5 rfl ?_
  refine g_bipush (v := 6) dX9_isRecognized_7 kB_6 ?_
  refine g_icmp_ge (tgt := 145) dX9_isRecognized_9 (by decide) (fun c1 => ?_) (fun c1 => ?_)
  · have hf := it_ hf c1
    refine g_iload_n (q := 3) dX9_isRecognized_145 rfl rfl ?_
    refine g_if_le (tgt := 153) dX9_isRecognized_146 (by decide) (fun c2 => ?_) (fun c2 => ?_)
    · have hf := it_ hf c2
      refine g_iconst (v := 0) dX9_isRecognized_153 kI_0 ?_
      refine g_lv [] rfl ?_
      exact wX9_isRecognized_b154 E z  0 m hf
    · have hf := ie_ hf c2
      refine g_iconst (v := 1) dX9_isRecognized_149 kI_1 ?_
      refine g_goto (tgt := 154) dX9_isRecognized_150 (by decide) ?_
      refine g_lv [] rfl ?_
      exact wX9_isRecognized_b154 E z  1 m hf
  · have hf := ie_ hf c1
    refine g_iconst (v := (-1)) dX9_isRecognized_12 kI_m1 ?_
    refine nmI hf (fun x3 hf => ?_)
    refine g_istore dX9_isRecognized_13 (Nat.le_of_ble_eq_true rfl) rfl ?_
    refine g_iconst (v := 0) dX9_isRecognized_15 kI_0 ?_
    refine g_istore dX9_isRecognized_16 (Nat.le_of_ble_eq_true rfl) rfl ?_
    refine g_lv [2, 3, 4, 5, 6, 1, 0] rfl ?_
    exact wX9_isRecognized_l18 E z k5 ih5 5000 l1 l2 l3 l4 x3 0 m hf
theorem wX9_isRecognized_l5 (E : pEv) (z : Int32) : ∀ (n : Nat) (l1 : Int32) (l2 : Int32) (l3 : Int32) (l4 : Int32) (m : pMem), sX9_isRecognized_l5 n l1 l2 l3 l4 m = some z → gM E kX9_isRecognized (z, m) 5 [(0, .ref (eA E 9)), (1, .int l1), (2, .int l2), (3, .int l3), (4, .int l4)] [] m := by
  intro n
  induction n with
  | zero => intro l1 l2 l3 l4 m  hf; cases (show (none : Option _) = some z from hf)
  | succ n ih => intro l1 l2 l3 l4 m  hf; exact wX9_isRecognized_b5 E z  _  ih l1 l2 l3 l4 m  hf
theorem wX9_isRecognized_b0 (E : pEv) (z : Int32) (a1 : Int32) (a2 : Int32) (m : pMem) (hf : sX9_isRecognized a1 a2 m = some z) : gM E kX9_isRecognized (z, m) 0 [(0, .ref (eA E 9)), (1, .int a1), (2, .int a2)] [] m := by
  unfold sX9_isRecognized at hf
  refine g_iconst (v := 0) dX9_isRecognized_0 kI_0 ?_
  refine g_istore_n dX9_isRecognized_1 rfl (Nat.le_of_ble_eq_true rfl) rfl ?_
  refine g_iconst (v := 0) dX9_isRecognized_2 kI_0 ?_
  refine g_istore dX9_isRecognized_3 (Nat.le_of_ble_eq_true rfl) rfl ?_
  refine g_lv [2, 3, 4, 1, 0] rfl ?_
  exact wX9_isRecognized_l5 E z  5000 a1 a2 0 0 m hf
theorem tX9_isRecognized (E : pEv) (m : pMem) (a1 : Int32) (a2 : Int32) {z : Int32} (hf : sX9_isRecognized a1 a2 m = some z) : gCn E yX9_isRecognized kX9_isRecognized [.ref (eA E 9), .int a1, .int a2] m (z, m) := gCn_of (by decide +kernel) rfl rfl rfl (Nat.le_of_ble_eq_true rfl) rfl (wX9_isRecognized_b0 E z a1 a2 m  hf)
