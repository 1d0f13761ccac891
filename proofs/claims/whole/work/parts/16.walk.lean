/-! walks (printed) -/
theorem wX9_change_b96 (E : pEv) (z : Int32 × pMem) (m : pMem) (hf : sX9_change_b96  m = some z) : gM E kX9_change z 96 [] [] m := by
  unfold sX9_change_b96 at hf
  refine g_bipush (v := (-2)) dX9_change_96 kB_m2 ?_
  exact g_ret dX9_change_98 rfl rfl (Option.some.inj hf).symm
theorem wX9_change_b145 (E : pEv) (z : Int32 × pMem) (m : pMem) (hf : sX9_change_b145  m = some z) : gM E kX9_change z 145 [] [] m := by
  unfold sX9_change_b145 at hf
  refine g_bipush (v := (-4)) dX9_change_145 kB_m4 ?_
  exact g_ret dX9_change_147 rfl rfl (Option.some.inj hf).symm
theorem wX9_change_b189 (E : pEv) (z : Int32 × pMem) (m : pMem) (hf : sX9_change_b189  m = some z) : gM E kX9_change z 189 [] [] m := by
  unfold sX9_change_b189 at hf
  refine g_bipush (v := (-5)) dX9_change_189 kB_m5 ?_
  exact g_ret dX9_change_191 rfl rfl (Option.some.inj hf).symm
theorem wX9_change_b348 (E : pEv) (z : Int32 × pMem) (t0 : Int32) (m : pMem) (hf : sX9_change_b348 t0 m = some z) : gM E kX9_change z 348 [] [.int t0] m := by
  unfold sX9_change_b348 at hf
  exact g_ret dX9_change_348 rfl rfl (Option.some.inj hf).symm
theorem wX9_change_b263 (E : pEv) (z : Int32 × pMem) (k263 : Int32 → Int32 → Int32 → Int32 → Int32 → Int32 → Int32 → pMem → gO) (ih263 : ∀ (l1 : Int32) (l2 : Int32) (l3 : Int32) (l4 : Int32) (l5 : Int32) (l7 : Int32) (l8 : Int32)  (m : pMem), k263 l1 l2 l3 l4 l5 l7 l8 m = some z → gM E kX9_change z 263 [(0, .ref (eA E 9)), (1, .int l1), (2, .int l2), (3, .int l3), (4, .int l4), (5, .int l5), (7, .int l7), (8, .int l8)] [] m) (l1 : Int32) (l2 : Int32) (l3 : Int32) (l4 : Int32) (l5 : Int32) (l7 : Int32) (l8 : Int32) (m : pMem) (hf : sX9_change_b263 k263 l1 l2 l3 l4 l5 l7 l8 m = some z) : gM E kX9_change z 263 [(0, .ref (eA E 9)), (1, .int l1), (2, .int l2), (3, .int l3), (4, .int l4), (5, .int l5), (7, .int l7), (8, .int l8)] [] m := by
  unfold sX9_change_b263 at hf
  refine g_iload (q := 7) dX9_change_263 rfl ?_
  refine g_aload_n (q := 0) dX9_change_265 rfl rfl ?_
  refine g_get dX9_change_266 fX9_16 (obX9 E m) (gvX9_3 E m) ?_
  refine g_iload (q := 6) dX9_change_269 rfl ?_
  refine g_iadd dX9_change_271 ?_
  refine g_icmp_ge (tgt := 297) dX9_change_272 (by decide) (fun c49 => ?_) (fun c49 => ?_)
  · have hf := it_ hf c49
    refine g_aload_n (q := 0) dX9_change_297 rfl rfl ?_
    refine g_dup dX9_change_298 rfl ?_
    refine g_get dX9_change_299 fX9_16 (obX9 E m) (gvX9_3 E m) ?_
    refine g_iload (q := 6) dX9_change_302 rfl ?_
    refine g_iadd dX9_change_304 ?_
    refine g_put dX9_change_305 fX9_16 fwX9_3 rfl rfl (obX9 E m) (Nat.le_of_ble_eq_true rfl) (psX9_3 E m _) ?_
    refine nmG hf (fun m50 hf => ?_)
    refine g_aload_n (q := 0) dX9_change_308 rfl rfl ?_
    refine g_dup dX9_change_309 rfl ?_
    refine g_get dX9_change_310 fX9_152 (obX9 E m50) (gvX9_6 E m50) ?_
    refine g_iconst (v := 1) dX9_change_313 kI_1 ?_
    refine g_iadd dX9_change_314 ?_
    refine g_put dX9_change_315 fX9_152 fwX9_6 rfl rfl (obX9 E m50) (Nat.le_of_ble_eq_true rfl) (psX9_6 E m50 _) ?_
    refine nmG hf (fun m51 hf => ?_)
    refine g_aload_n (q := 0) dX9_change_318 rfl rfl ?_
    refine g_iload_n (q := 1) dX9_change_319 rfl rfl ?_
    refine g_iload_n (q := 3) dX9_change_320 rfl rfl ?_
    refine g_iload (q := 4) dX9_change_321 rfl ?_
    refine g_iload (q := 5) dX9_change_323 rfl ?_
    obtain ⟨r52, m54, q53, hf⟩ := cbE_ hf
    refine g_cVv (As := [.int l1, .int l3, .int l4, .int l5]) dX9_change_325 (tX9_doLast E m51 l1 l3 l4 l5 q53) gyX9_doLast giX9_doLast gsX9_doLast mX9_179 (⟨rfl, rfl, Nat.le_of_ble_eq_true rfl, Nat.le_of_ble_eq_true rfl, Nat.le_of_ble_eq_true rfl, Nat.le_of_ble_eq_true rfl⟩) rfl (obX9 E m51) rfl rfl rfl (Nat.le_of_ble_eq_true rfl) ?_
    refine g_iload (q := 6) dX9_change_328 rfl ?_
    refine g_if_le (tgt := 347) dX9_change_330 (by decide) (fun c55 => ?_) (fun c55 => ?_)
    · have hf := it_ hf c55
      refine g_iload_n (q := 3) dX9_change_347 rfl rfl ?_
      refine g_lv [] rfl ?_
      exact wX9_change_b348 E z  l3 m54 hf
    · have hf := ie_ hf c55
      refine g_aload_n (q := 0) dX9_change_333 rfl rfl ?_
      refine g_get dX9_change_334 fX9_41 (obX9 E m54) (gvX9_12 E m54) ?_
      refine g_aload_n (q := 0) dX9_change_337 rfl rfl ?_
      refine g_get dX9_change_338 fX9_152 (obX9 E m54) (gvX9_6 E m54) ?_
      refine g_iconst (v := 1) dX9_change_341 kI_1 ?_
      refine g_isub dX9_change_342 ?_
      obtain ⟨h56, hf⟩ := gd_ hf
      refine g_iald dX9_change_343 ar_73 h56 ?_
      refine g_goto (tgt := 348) dX9_change_344 (by decide) ?_
      refine g_lv [] rfl ?_
      exact wX9_change_b348 E z  (m54.1 73 (((m54.1 9 6) - (1 : Int32)).toNatClampNeg)) m54 hf
  · have hf := ie_ hf c49
    refine g_aload_n (q := 0) dX9_change_275 rfl rfl ?_
    refine g_get dX9_change_276 fX9_20 (obX9 E m) (gvX9_4 E m) ?_
    refine g_iload (q := 7) dX9_change_279 rfl ?_
    refine g_iload_n (q := 3) dX9_change_281 rfl rfl ?_
    obtain ⟨h57, hf⟩ := gd_ hf
    refine g_iast dX9_change_282 ar_66 h57 ?_
    refine nmG hf (fun m58 hf => ?_)
    refine g_aload_n (q := 0) dX9_change_283 rfl rfl ?_
    refine g_get dX9_change_284 fX9_23 (obX9 E m58) (gvX9_5 E m58) ?_
    refine g_iload (q := 7) dX9_change_287 rfl ?_
    refine g_iload_n (q := 2) dX9_change_289 rfl rfl ?_
    obtain ⟨h59, hf⟩ := gd_ hf
    refine g_iast dX9_change_290 ar_67 h59 ?_
    refine nmG hf (fun m60 hf => ?_)
    refine g_iinc (q := 7) (v := l8 + 1) dX9_change_291 rfl (by rw [kI_1]) (Nat.le_of_ble_eq_true rfl) rfl ?_
    refine g_goto (tgt := 263) dX9_change_294 (by decide) ?_
    refine g_lv [1, 2, 3, 4, 5, 6, 7, 0] rfl ?_
    exact ih263 l1 l2 l3 l4 l5 l7 (l8 + 1) m60 hf
theorem wX9_change_l263 (E : pEv) (z : Int32 × pMem) : ∀ (n : Nat) (l1 : Int32) (l2 : Int32) (l3 : Int32) (l4 : Int32) (l5 : Int32) (l7 : Int32) (l8 : Int32) (m : pMem), sX9_change_l263 n l1 l2 l3 l4 l5 l7 l8 m = some z → gM E kX9_change z 263 [(0, .ref (eA E 9)), (1, .int l1), (2, .int l2), (3, .int l3), (4, .int l4), (5, .int l5), (7, .int l7), (8, .int l8)] [] m := by
  intro n
  induction n with
  | zero => intro l1 l2 l3 l4 l5 l7 l8 m  hf; cases (show (none : Option _) = some z from hf)
  | succ n ih => intro l1 l2 l3 l4 l5 l7 l8 m  hf; exact wX9_change_b263 E z  _  ih l1 l2 l3 l4 l5 l7 l8 m  hf
theorem wX9_change_b166 (E : pEv) (z : Int32 × pMem) (l1 : Int32) (l2 : Int32) (l3 : Int32) (l4 : Int32) (l5 : Int32) (t0 : Int32) (m : pMem) (hf : sX9_change_b166 l1 l2 l3 l4 l5 t0 m = some z) : gM E kX9_change z 166 [(0, .ref (eA E 9)), (1, .int l1), (2, .int l2), (3, .int l3), (4, .int l4), (5, .int l5)] [.int t0] m := by
  unfold sX9_change_b166 at hf
  refine g_istore dX9_change_166 (Nat.le_of_ble_eq_true rfl) rfl ?_
  refine g_aload_n (q := 1) dX9_change_168 rfl rfl ?_
  refine g_get dX9_change_169 fX9_152 (obX9 E m) (gvX9_6 E m) ?_
  refine g_bipush (v := 12) dX9_change_172 kB_12 ?_
  refine g_icmp_eq (tgt := 189) dX9_change_174 (by decide) (fun c34 => ?_) (fun c34 => ?_)
  · have hf := it_ hf c34
    refine g_lv [] rfl ?_
    exact wX9_change_b189 E z  m hf
  · have hf := ie_ hf c34
    refine g_aload_n (q := 1) dX9_change_177 rfl rfl ?_
    refine g_get dX9_change_178 fX9_16 (obX9 E m) (gvX9_3 E m) ?_
    refine g_iload (q := 0) dX9_change_181 rfl ?_
    refine g_iadd dX9_change_183 ?_
    refine g_bipush (v := 10) dX9_change_184 kB_10 ?_
    refine g_icmp_le (tgt := 192) dX9_change_186 (by decide) (fun c35 => ?_) (fun c35 => ?_)
    · have hf := it_ hf c35
      refine g_aload_n (q := 1) dX9_change_192 rfl rfl ?_
      refine g_get dX9_change_193 fX9_26 (obX9 E m) (gvX9_7 E m) ?_
      refine g_aload_n (q := 1) dX9_change_196 rfl rfl ?_
      refine g_get dX9_change_197 fX9_152 (obX9 E m) (gvX9_6 E m) ?_
      refine g_iload_n (q := 2) dX9_change_200 rfl rfl ?_
      obtain ⟨h36, hf⟩ := gd_ hf
      refine g_iast dX9_change_201 ar_68 h36 ?_
      refine nmG hf (fun m37 hf => ?_)
      refine g_aload_n (q := 1) dX9_change_202 rfl rfl ?_
      refine g_get dX9_change_203 fX9_29 (obX9 E m37) (gvX9_8 E m37) ?_
      refine g_aload_n (q := 1) dX9_change_206 rfl rfl ?_
      refine g_get dX9_change_207 fX9_152 (obX9 E m37) (gvX9_6 E m37) ?_
      refine g_iload_n (q := 3) dX9_change_210 rfl rfl ?_
      obtain ⟨h38, hf⟩ := gd_ hf
      refine g_iast dX9_change_211 ar_69 h38 ?_
      refine nmG hf (fun m39 hf => ?_)
      refine g_aload_n (q := 1) dX9_change_212 rfl rfl ?_
      refine g_get dX9_change_213 fX9_32 (obX9 E m39) (gvX9_9 E m39) ?_
      refine g_aload_n (q := 1) dX9_change_216 rfl rfl ?_
      refine g_get dX9_change_217 fX9_152 (obX9 E m39) (gvX9_6 E m39) ?_
      refine g_iload_n (q := 4) dX9_change_220 rfl rfl ?_
      obtain ⟨h40, hf⟩ := gd_ hf
      refine g_iast dX9_change_221 ar_70 h40 ?_
      refine nmG hf (fun m41 hf => ?_)
      refine g_aload_n (q := 1) dX9_change_222 rfl rfl ?_
      refine g_get dX9_change_223 fX9_35 (obX9 E m41) (gvX9_10 E m41) ?_
      refine g_aload_n (q := 1) dX9_change_226 rfl rfl ?_
      refine g_get dX9_change_227 fX9_152 (obX9 E m41) (gvX9_6 E m41) ?_
      refine g_iload (q := 5) dX9_change_230 rfl ?_
      obtain ⟨h42, hf⟩ := gd_ hf
      refine g_iast dX9_change_232 ar_71 h42 ?_
      refine nmG hf (fun m43 hf => ?_)
      refine g_aload_n (q := 1) dX9_change_233 rfl rfl ?_
      refine g_get dX9_change_234 fX9_38 (obX9 E m43) (gvX9_11 E m43) ?_
      refine g_aload_n (q := 1) dX9_change_237 rfl rfl ?_
      refine g_get dX9_change_238 fX9_152 (obX9 E m43) (gvX9_6 E m43) ?_
      refine g_iload (q := 6) dX9_change_241 rfl ?_
      obtain ⟨h44, hf⟩ := gd_ hf
      refine g_iast dX9_change_243 ar_72 h44 ?_
      refine nmG hf (fun m45 hf => ?_)
      refine g_aload_n (q := 1) dX9_change_244 rfl rfl ?_
      refine g_get dX9_change_245 fX9_41 (obX9 E m45) (gvX9_12 E m45) ?_
      refine g_aload_n (q := 1) dX9_change_248 rfl rfl ?_
      refine g_get dX9_change_249 fX9_152 (obX9 E m45) (gvX9_6 E m45) ?_
      refine g_aload_n (q := 1) dX9_change_252 rfl rfl ?_
      refine g_get dX9_change_253 fX9_16 (obX9 E m45) (gvX9_3 E m45) ?_
      obtain ⟨h46, hf⟩ := gd_ hf
      refine g_iast dX9_change_256 ar_73 h46 ?_
      refine nmG hf (fun m47 hf => ?_)
      refine g_aload_n (q := 1) dX9_change_257 rfl rfl ?_
      refine g_get dX9_change_258 fX9_16 (obX9 E m47) (gvX9_3 E m47) ?_
      refine nmI hf (fun x48 hf => ?_)
      refine g_istore dX9_change_261 (Nat.le_of_ble_eq_true rfl) rfl ?_
      refine g_lv [2, 3, 4, 5, 6, 7, 1, 0] rfl ?_
      exact wX9_change_l263 E z  5000 l1 l2 l3 l4 l5 t0 x48 m47 hf
    · have hf := ie_ hf c35
      refine g_lv [] rfl ?_
      exact wX9_change_b189 E z  m hf
theorem wX9_change_b148 (E : pEv) (z : Int32 × pMem) (l1 : Int32) (l2 : Int32) (l3 : Int32) (l4 : Int32) (l5 : Int32) (m : pMem) (hf : sX9_change_b148 l1 l2 l3 l4 l5 m = some z) : gM E kX9_change z 148 [(0, .ref (eA E 9)), (1, .int l1), (2, .int l2), (3, .int l3), (4, .int l4), (5, .int l5)] [] m := by
  unfold sX9_change_b148 at hf
  refine g_iload_n (q := 1) dX9_change_148 rfl rfl ?_
  refine g_if_ne (tgt := 156) dX9_change_149 (by decide) (fun c32 => ?_) (fun c32 => ?_)
  · have hf := it_ hf c32
    refine g_iload_n (q := 1) dX9_change_156 rfl rfl ?_
    refine g_iconst (v := 1) dX9_change_157 kI_1 ?_
    refine g_icmp_ne (tgt := 165) dX9_change_158 (by decide) (fun c33 => ?_) (fun c33 => ?_)
    · have hf := it_ hf c33
      refine g_iconst (v := 0) dX9_change_165 kI_0 ?_
      exact wX9_change_b166 E z  l1 l2 l3 l4 l5 0 m hf
    · have hf := ie_ hf (not_not_intro c33)
      refine g_iconst (v := 2) dX9_change_161 kI_2 ?_
      refine g_goto (tgt := 166) dX9_change_162 (by decide) ?_
      exact wX9_change_b166 E z  l1 l2 l3 l4 l5 2 m hf
  · have hf := ie_ hf (not_not_intro c32)
    refine g_iconst (v := 1) dX9_change_152 kI_1 ?_
    refine g_goto (tgt := 166) dX9_change_153 (by decide) ?_
    exact wX9_change_b166 E z  l1 l2 l3 l4 l5 1 m hf
theorem wX9_change_b130 (E : pEv) (z : Int32 × pMem) (l1 : Int32) (l2 : Int32) (l3 : Int32) (l4 : Int32) (l5 : Int32) (m : pMem) (hf : sX9_change_b130 l1 l2 l3 l4 l5 m = some z) : gM E kX9_change z 130 [(0, .ref (eA E 9)), (1, .int l1), (2, .int l2), (3, .int l3), (4, .int l4), (5, .int l5)] [] m := by
  unfold sX9_change_b130 at hf
  refine g_iload_n (q := 1) dX9_change_130 rfl rfl ?_
  refine g_iconst (v := 4) dX9_change_131 kI_4 ?_
  refine g_icmp_ne (tgt := 148) dX9_change_132 (by decide) (fun c29 => ?_) (fun c29 => ?_)
  · have hf := it_ hf c29
    exact wX9_change_b148 E z  l1 l2 l3 l4 l5 m hf
  · have hf := ie_ hf (not_not_intro c29)
    refine g_aload_n (q := 0) dX9_change_135 rfl rfl ?_
    refine g_get dX9_change_136 fX9_20 (obX9 E m) (gvX9_4 E m) ?_
    refine g_iload_n (q := 3) dX9_change_139 rfl rfl ?_
    obtain ⟨h30, hf⟩ := gd_ hf
    refine g_iald dX9_change_140 ar_66 h30 ?_
    refine g_iconst (v := (-1)) dX9_change_141 kI_m1 ?_
    refine g_icmp_ne (tgt := 148) dX9_change_142 (by decide) (fun c31 => ?_) (fun c31 => ?_)
    · have hf := it_ hf c31
      exact wX9_change_b148 E z  l1 l2 l3 l4 l5 m hf
    · have hf := ie_ hf (not_not_intro c31)
      refine g_lv [] rfl ?_
      exact wX9_change_b145 E z  m hf
theorem wX9_change_b110 (E : pEv) (z : Int32 × pMem) (l1 : Int32) (l2 : Int32) (l3 : Int32) (l4 : Int32) (l5 : Int32) (m : pMem) (hf : sX9_change_b110 l1 l2 l3 l4 l5 m = some z) : gM E kX9_change z 110 [(0, .ref (eA E 9)), (1, .int l1), (2, .int l2), (3, .int l3), (4, .int l4), (5, .int l5)] [] m := by
  unfold sX9_change_b110 at hf
  refine g_iload_n (q := 1) dX9_change_110 rfl rfl ?_
  refine g_iconst (v := 2) dX9_change_111 kI_2 ?_
  refine g_icmp_eq (tgt := 130) dX9_change_112 (by decide) (fun c24 => ?_) (fun c24 => ?_)
  · have hf := it_ hf c24
    exact wX9_change_b130 E z  l1 l2 l3 l4 l5 m hf
  · have hf := ie_ hf c24
    refine g_iload_n (q := 1) dX9_change_115 rfl rfl ?_
    refine g_iconst (v := 4) dX9_change_116 kI_4 ?_
    refine g_icmp_eq (tgt := 130) dX9_change_117 (by decide) (fun c25 => ?_) (fun c25 => ?_)
    · have hf := it_ hf c25
      exact wX9_change_b130 E z  l1 l2 l3 l4 l5 m hf
    · have hf := ie_ hf c25
      refine g_aload_n (q := 0) dX9_change_120 rfl rfl ?_
      refine g_iload (q := 5) dX9_change_121 rfl ?_
      refine g_iload_n (q := 3) dX9_change_123 rfl rfl ?_
      obtain ⟨r26, q27, hf⟩ := cbR_ hf
      refine g_cV (As := [.int l5, .int l3]) dX9_change_124 (tX9_isSome E m l5 l3 q27) gyX9_isSome giX9_isSome gsX9_isSome mX9_176 (⟨rfl, rfl, Nat.le_of_ble_eq_true rfl, Nat.le_of_ble_eq_true rfl, Nat.le_of_ble_eq_true rfl, Nat.le_of_ble_eq_true rfl⟩) rfl (obX9 E m) rfl rfl rfl (Nat.le_of_ble_eq_true rfl) ?_
      refine g_if_eq (tgt := 145) dX9_change_127 (by decide) (fun c28 => ?_) (fun c28 => ?_)
      · have hf := it_ hf c28
        refine g_lv [] rfl ?_
        exact wX9_change_b145 E z  m hf
      · have hf := ie_ hf c28
        exact wX9_change_b130 E z  l1 l2 l3 l4 l5 m hf
theorem wX9_change_b99 (E : pEv) (z : Int32 × pMem) (l1 : Int32) (l2 : Int32) (l3 : Int32) (l4 : Int32) (l5 : Int32) (l6 : Int32) (m : pMem) (hf : sX9_change_b99 l1 l2 l3 l4 l5 l6 m = some z) : gM E kX9_change z 99 [(0, .ref (eA E 9)), (1, .int l1), (2, .int l2), (3, .int l3), (4, .int l4), (5, .int l5), (6, .int l6)] [] m := by
  unfold sX9_change_b99 at hf
  refine g_iload (q := 6) dX9_change_99 rfl ?_
  refine g_if_eq (tgt := 110) dX9_change_101 (by decide) (fun c22 => ?_) (fun c22 => ?_)
  · have hf := it_ hf c22
    refine g_lv [0, 1, 2, 3, 4, 5] rfl ?_
    exact wX9_change_b110 E z  l1 l2 l3 l4 l5 m hf
  · have hf := ie_ hf c22
    refine g_iload_n (q := 3) dX9_change_104 rfl rfl ?_
    refine g_iload (q := 4) dX9_change_105 rfl ?_
    refine g_icmp_eq (tgt := 145) dX9_change_107 (by decide) (fun c23 => ?_) (fun c23 => ?_)
    · have hf := it_ hf c23
      refine g_lv [] rfl ?_
      exact wX9_change_b145 E z  m hf
    · have hf := ie_ hf c23
      refine g_lv [0, 1, 2, 3, 4, 5] rfl ?_
      exact wX9_change_b110 E z  l1 l2 l3 l4 l5 m hf
theorem wX9_change_b64 (E : pEv) (z : Int32 × pMem) (l1 : Int32) (l2 : Int32) (l3 : Int32) (l4 : Int32) (l5 : Int32) (t0 : Int32) (m : pMem) (hf : sX9_change_b64 l1 l2 l3 l4 l5 t0 m = some z) : gM E kX9_change z 64 [(0, .ref (eA E 9)), (1, .int l1), (2, .int l2), (3, .int l3), (4, .int l4), (5, .int l5)] [.int t0] m := by
  unfold sX9_change_b64 at hf
  refine g_istore dX9_change_64 (Nat.le_of_ble_eq_true rfl) rfl ?_
  refine g_aload_n (q := 1) dX9_change_66 rfl rfl ?_
  refine g_iload_n (q := 4) dX9_change_67 rfl rfl ?_
  refine g_aload_n (q := 1) dX9_change_68 rfl rfl ?_
  refine g_get dX9_change_69 fX9_152 (obX9 E m) (gvX9_6 E m) ?_
  obtain ⟨r15, q16, hf⟩ := cbR_ hf
  refine g_cV (As := [.int l3, .int (m.1 9 6)]) dX9_change_72 (tX9_isThere E m l3 (m.1 9 6) q16) gyX9_isThere giX9_isThere gsX9_isThere mX9_172 (⟨rfl, rfl, Nat.le_of_ble_eq_true rfl, Nat.le_of_ble_eq_true rfl, Nat.le_of_ble_eq_true rfl, Nat.le_of_ble_eq_true rfl⟩) rfl (obX9 E m) rfl rfl rfl (Nat.le_of_ble_eq_true rfl) ?_
  refine g_if_eq (tgt := 96) dX9_change_75 (by decide) (fun c17 => ?_) (fun c17 => ?_)
  · have hf := it_ hf c17
    refine g_lv [] rfl ?_
    exact wX9_change_b96 E z  m hf
  · have hf := ie_ hf c17
    refine g_iload (q := 0) dX9_change_78 rfl ?_
    refine g_if_eq (tgt := 99) dX9_change_80 (by decide) (fun c18 => ?_) (fun c18 => ?_)
    · have hf := it_ hf c18
      refine g_lv [1, 2, 3, 4, 5, 6, 0] rfl ?_
      exact wX9_change_b99 E z  l1 l2 l3 l4 l5 t0 m hf
    · have hf := ie_ hf c18
      refine g_aload_n (q := 1) dX9_change_83 rfl rfl ?_
      refine g_iload (q := 5) dX9_change_84 rfl ?_
      refine g_aload_n (q := 1) dX9_change_86 rfl rfl ?_
      refine g_get dX9_change_87 fX9_152 (obX9 E m) (gvX9_6 E m) ?_
      obtain ⟨r19, q20, hf⟩ := cbR_ hf
      refine g_cV (As := [.int l4, .int (m.1 9 6)]) dX9_change_90 (tX9_isThere E m l4 (m.1 9 6) q20) gyX9_isThere giX9_isThere gsX9_isThere mX9_172 (⟨rfl, rfl, Nat.le_of_ble_eq_true rfl, Nat.le_of_ble_eq_true rfl, Nat.le_of_ble_eq_true rfl, Nat.le_of_ble_eq_true rfl⟩) rfl (obX9 E m) rfl rfl rfl (Nat.le_of_ble_eq_true rfl) ?_
      refine g_if_ne (tgt := 99) dX9_change_93 (by decide) (fun c21 => ?_) (fun c21 => ?_)
      · have hf := it_ hf c21
        refine g_lv [1, 2, 3, 4, 5, 6, 0] rfl ?_
        exact wX9_change_b99 E z  l1 l2 l3 l4 l5 t0 m hf
      · have hf := ie_ hf (not_not_intro c21)
        refine g_lv [] rfl ?_
        exact wX9_change_b96 E z  m hf
theorem wX9_change_b59 (E : pEv) (z : Int32 × pMem) (l1 : Int32) (l2 : Int32) (l3 : Int32) (l4 : Int32) (l5 : Int32) (m : pMem) (hf : sX9_change_b59 l1 l2 l3 l4 l5 m = some z) : gM E kX9_change z 59 [(0, .ref (eA E 9)), (1, .int l1), (2, .int l2), (3, .int l3), (4, .int l4), (5, .int l5)] [] m := by
  unfold sX9_change_b59 at hf
  refine g_iconst (v := 1) dX9_change_59 kI_1 ?_
  refine g_goto (tgt := 64) dX9_change_60 (by decide) ?_
  exact wX9_change_b64 E z  l1 l2 l3 l4 l5 1 m hf
theorem wX9_change_b46 (E : pEv) (z : Int32 × pMem) (m : pMem) (hf : sX9_change_b46  m = some z) : gM E kX9_change z 46 [] [] m := by
  unfold sX9_change_b46 at hf
  refine g_bipush (v := (-3)) dX9_change_46 kB_m3 ?_
  exact g_ret dX9_change_48 rfl rfl (Option.some.inj hf).symm
theorem wX9_change_b38 (E : pEv) (z : Int32 × pMem) (l1 : Int32) (l2 : Int32) (l3 : Int32) (l4 : Int32) (l5 : Int32) (m : pMem) (hf : sX9_change_b38 l1 l2 l3 l4 l5 m = some z) : gM E kX9_change z 38 [(0, .ref (eA E 9)), (1, .int l1), (2, .int l2), (3, .int l3), (4, .int l4), (5, .int l5)] [] m := by
  unfold sX9_change_b38 at hf
  refine g_aload_n (q := 0) dX9_change_38 rfl rfl ?_
  refine g_iload_n (q := 2) dX9_change_39 rfl rfl ?_
  obtain ⟨r10, q11, hf⟩ := cbR_ hf
  refine g_cV (As := [.int l2]) dX9_change_40 (tX9_isLate E m l2 q11) gyX9_isLate giX9_isLate gsX9_isLate mX9_169 (⟨rfl, rfl, Nat.le_of_ble_eq_true rfl, Nat.le_of_ble_eq_true rfl, Nat.le_of_ble_eq_true rfl, Nat.le_of_ble_eq_true rfl⟩) rfl (obX9 E m) rfl rfl rfl (Nat.le_of_ble_eq_true rfl) ?_
  refine g_if_ne (tgt := 49) dX9_change_43 (by decide) (fun c12 => ?_) (fun c12 => ?_)
  · have hf := it_ hf c12
    refine g_iload_n (q := 1) dX9_change_49 rfl rfl ?_
    refine g_iconst (v := 2) dX9_change_50 kI_2 ?_
    refine g_icmp_eq (tgt := 59) dX9_change_51 (by decide) (fun c13 => ?_) (fun c13 => ?_)
    · have hf := it_ hf c13
      exact wX9_change_b59 E z  l1 l2 l3 l4 l5 m hf
    · have hf := ie_ hf c13
      refine g_iload_n (q := 1) dX9_change_54 rfl rfl ?_
      refine g_iconst (v := 3) dX9_change_55 kI_3 ?_
      refine g_icmp_ne (tgt := 63) dX9_change_56 (by decide) (fun c14 => ?_) (fun c14 => ?_)
      · have hf := it_ hf c14
        refine g_iconst (v := 0) dX9_change_63 kI_0 ?_
        exact wX9_change_b64 E z  l1 l2 l3 l4 l5 0 m hf
      · have hf := ie_ hf (not_not_intro c14)
        exact wX9_change_b59 E z  l1 l2 l3 l4 l5 m hf
  · have hf := ie_ hf (not_not_intro c12)
    refine g_lv [] rfl ?_
    exact wX9_change_b46 E z  m hf
theorem wX9_change_b0 (E : pEv) (z : Int32 × pMem) (a1 : Int32) (a2 : Int32) (a3 : Int32) (a4 : Int32) (a5 : Int32) (m : pMem) (hf : sX9_change a1 a2 a3 a4 a5 m = some z) : gM E kX9_change z 0 [(0, .ref (eA E 9)), (1, .int a1), (2, .int a2), (3, .int a3), (4, .int a4), (5, .int a5)] [] m := by
  unfold sX9_change at hf
  refine g_iload_n (q := 1) dX9_change_0 rfl rfl ?_
  refine g_iconst (v := 0) dX9_change_1 kI_0 ?_
  refine g_iconst (v := 4) dX9_change_2 kI_4 ?_
  obtain ⟨r1, q2, hf⟩ := cbR_ hf
  refine g_cS (As := [.int a1, .int 0, .int 4]) dX9_change_3 (tX9_in E m a1 0 4 q2) gyX9_in giX9_in mX9_148 (⟨rfl, rfl, Nat.le_of_ble_eq_true rfl, Nat.le_of_ble_eq_true rfl, Nat.le_of_ble_eq_true rfl, Nat.le_of_ble_eq_true rfl⟩) rfl rfl rfl (Nat.le_of_ble_eq_true rfl) ?_
  refine g_if_eq (tgt := 46) dX9_change_6 (by decide) (fun c3 => ?_) (fun c3 => ?_)
  · have hf := it_ hf c3
    refine g_lv [] rfl ?_
    exact wX9_change_b46 E z  m hf
  · have hf := ie_ hf c3
    refine g_iload_n (q := 2) dX9_change_9 rfl rfl ?_
    obtain ⟨r4, q5, hf⟩ := cbR_ hf
    refine g_cS (As := [.int a2]) dX9_change_10 (tX9_isDay E m a2 q5) gyX9_isDay giX9_isDay mX9_165 (⟨rfl, rfl, Nat.le_of_ble_eq_true rfl, Nat.le_of_ble_eq_true rfl, Nat.le_of_ble_eq_true rfl, Nat.le_of_ble_eq_true rfl⟩) rfl rfl rfl (Nat.le_of_ble_eq_true rfl) ?_
    refine g_if_eq (tgt := 46) dX9_change_13 (by decide) (fun c6 => ?_) (fun c6 => ?_)
    · have hf := it_ hf c6
      refine g_lv [] rfl ?_
      exact wX9_change_b46 E z  m hf
    · have hf := ie_ hf c6
      refine g_aload_n (q := 0) dX9_change_16 rfl rfl ?_
      refine g_get dX9_change_17 fX9_152 (obX9 E m) (gvX9_6 E m) ?_
      refine g_if_le (tgt := 38) dX9_change_20 (by decide) (fun c7 => ?_) (fun c7 => ?_)
      · have hf := it_ hf c7
        exact wX9_change_b38 E z  a1 a2 a3 a4 a5 m hf
      · have hf := ie_ hf c7
        refine g_iload_n (q := 2) dX9_change_23 rfl rfl ?_
        refine g_aload_n (q := 0) dX9_change_24 rfl rfl ?_
        refine g_get dX9_change_25 fX9_29 (obX9 E m) (gvX9_8 E m) ?_
        refine g_aload_n (q := 0) dX9_change_28 rfl rfl ?_
        refine g_get dX9_change_29 fX9_152 (obX9 E m) (gvX9_6 E m) ?_
        refine g_iconst (v := 1) dX9_change_32 kI_1 ?_
        refine g_isub dX9_change_33 ?_
        obtain ⟨h8, hf⟩ := gd_ hf
        refine g_iald dX9_change_34 ar_69 h8 ?_
        refine g_icmp_lt (tgt := 46) dX9_change_35 (by decide) (fun c9 => ?_) (fun c9 => ?_)
        · have hf := it_ hf c9
          refine g_lv [] rfl ?_
          exact wX9_change_b46 E z  m hf
        · have hf := ie_ hf c9
          exact wX9_change_b38 E z  a1 a2 a3 a4 a5 m hf
theorem tX9_change (E : pEv) (m : pMem) (a1 : Int32) (a2 : Int32) (a3 : Int32) (a4 : Int32) (a5 : Int32) {z : Int32 × pMem} (hf : sX9_change a1 a2 a3 a4 a5 m = some z) : gCn E yX9_change kX9_change [.ref (eA E 9), .int a1, .int a2, .int a3, .int a4, .int a5] m z := gCn_of (by decide +kernel) rfl rfl rfl (Nat.le_of_ble_eq_true rfl) rfl (wX9_change_b0 E z a1 a2 a3 a4 a5 m  hf)
theorem wX9_count_b0 (E : pEv) (z : Int32) (a1 : Int32) (m : pMem) (hf : sX9_count a1 m = some z) : gM E kX9_count (z, m) 0 [(0, .ref (eA E 9)), (1, .int a1)] [] m := by
  unfold sX9_count at hf
  refine g_iload_n (q := 1) dX9_count_0 rfl rfl ?_
  by_cases c1 : a1 = 0
  · have hf := it_ hf c1
    refine g_tableIn (tgt := 56) (off := 55) dX9_count_1 (by rw [c1]; decide) (by rw [c1]; decide) (by rw [c1]; decide) (by decide) ?_
    refine g_aload_n (q := 0) dX9_count_56 rfl rfl ?_
    refine g_get dX9_count_57 fX9_145 (obX9 E m) (gvX9_0 E m) ?_
    exact g_ret dX9_count_60 rfl rfl (by rw [Option.some.inj hf])
  · have hf := ie_ hf c1
    by_cases c2 : a1 = 1
    · have hf := it_ hf c2
      refine g_tableIn (tgt := 61) (off := 60) dX9_count_1 (by rw [c2]; decide) (by rw [c2]; decide) (by rw [c2]; decide) (by decide) ?_
      refine g_aload_n (q := 0) dX9_count_61 rfl rfl ?_
      refine g_get dX9_count_62 fX9_16 (obX9 E m) (gvX9_3 E m) ?_
      exact g_ret dX9_count_65 rfl rfl (by rw [Option.some.inj hf])
    · have hf := ie_ hf c2
      by_cases c3 : a1 = 2
      · have hf := it_ hf c3
        refine g_tableIn (tgt := 66) (off := 65) dX9_count_1 (by rw [c3]; decide) (by rw [c3]; decide) (by rw [c3]; decide) (by decide) ?_
        refine g_aload_n (q := 0) dX9_count_66 rfl rfl ?_
        refine g_get dX9_count_67 fX9_152 (obX9 E m) (gvX9_6 E m) ?_
        exact g_ret dX9_count_70 rfl rfl (by rw [Option.some.inj hf])
      · have hf := ie_ hf c3
        by_cases c4 : a1 = 3
        · have hf := it_ hf c4
          refine g_tableIn (tgt := 71) (off := 70) dX9_count_1 (by rw [c4]; decide) (by rw [c4]; decide) (by rw [c4]; decide) (by decide) ?_
          refine g_aload_n (q := 0) dX9_count_71 rfl rfl ?_
          refine g_get dX9_count_72 fX9_202 (obX9 E m) (gvX9_15 E m) ?_
          exact g_ret dX9_count_75 rfl rfl (by rw [Option.some.inj hf])
        · have hf := ie_ hf c4
          by_cases c5 : a1 = 4
          · have hf := it_ hf c5
            refine g_tableIn (tgt := 76) (off := 75) dX9_count_1 (by rw [c5]; decide) (by rw [c5]; decide) (by rw [c5]; decide) (by decide) ?_
            refine g_aload_n (q := 0) dX9_count_76 rfl rfl ?_
            refine g_get dX9_count_77 fX9_159 (obX9 E m) (gvX9_26 E m) ?_
            exact g_ret dX9_count_80 rfl rfl (by rw [Option.some.inj hf])
          · have hf := ie_ hf c5
            by_cases c6 : a1 = 5
            · have hf := it_ hf c6
              refine g_tableIn (tgt := 81) (off := 80) dX9_count_1 (by rw [c6]; decide) (by rw [c6]; decide) (by rw [c6]; decide) (by decide) ?_
              refine g_aload_n (q := 0) dX9_count_81 rfl rfl ?_
              refine g_get dX9_count_82 fX9_292 (obX9 E m) (gvX9_32 E m) ?_
              exact g_ret dX9_count_85 rfl rfl (by rw [Option.some.inj hf])
            · have hf := ie_ hf c6
              by_cases c7 : a1 = 6
              · have hf := it_ hf c7
                refine g_tableIn (tgt := 86) (off := 85) dX9_count_1 (by rw [c7]; decide) (by rw [c7]; decide) (by rw [c7]; decide) (by decide) ?_
                refine g_aload_n (q := 0) dX9_count_86 rfl rfl ?_
                refine g_get dX9_count_87 fX9_295 (obX9 E m) (gvX9_39 E m) ?_
                exact g_ret dX9_count_90 rfl rfl (by rw [Option.some.inj hf])
              · have hf := ie_ hf c7
                by_cases c8 : a1 = 7
                · have hf := it_ hf c8
                  refine g_tableIn (tgt := 91) (off := 90) dX9_count_1 (by rw [c8]; decide) (by rw [c8]; decide) (by rw [c8]; decide) (by decide) ?_
                  refine g_aload_n (q := 0) dX9_count_91 rfl rfl ?_
                  refine g_get dX9_count_92 fX9_162 (obX9 E m) (gvX9_46 E m) ?_
                  exact g_ret dX9_count_95 rfl rfl (by rw [Option.some.inj hf])
                · have hf := ie_ hf c8
                  by_cases c9 : a1 = 8
                  · have hf := it_ hf c9
                    refine g_tableIn (tgt := 96) (off := 95) dX9_count_1 (by rw [c9]; decide) (by rw [c9]; decide) (by rw [c9]; decide) (by decide) ?_
                    refine g_aload_n (q := 0) dX9_count_96 rfl rfl ?_
                    refine g_get dX9_count_97 fX9_345 (obX9 E m) (gvX9_51 E m) ?_
                    exact g_ret dX9_count_100 rfl rfl (by rw [Option.some.inj hf])
                  · have hf := ie_ hf c9
                    by_cases c10 : a1 = 9
                    · have hf := it_ hf c10
                      refine g_tableIn (tgt := 101) (off := 100) dX9_count_1 (by rw [c10]; decide) (by rw [c10]; decide) (by rw [c10]; decide) (by decide) ?_
                      refine g_aload_n (q := 0) dX9_count_101 rfl rfl ?_
                      refine g_get dX9_count_102 fX9_354 (obX9 E m) (gvX9_55 E m) ?_
                      exact g_ret dX9_count_105 rfl rfl (by rw [Option.some.inj hf])
                    · have hf := ie_ hf c10
                      refine g_tableOut (tgt := 106) dX9_count_1 (gsw_out (hi := 9) 10 (by decide) rfl (fun k hk => match k, hk with | 0, _ => c1 | 1, _ => c2 | 2, _ => c3 | 3, _ => c4 | 4, _ => c5 | 5, _ => c6 | 6, _ => c7 | 7, _ => c8 | 8, _ => c9 | 9, _ => c10 | n + 10, h => absurd h (by omega))) (by decide) ?_
                      refine g_bipush (v := (-3)) dX9_count_106 kB_m3 ?_
                      exact g_ret dX9_count_108 rfl rfl (by rw [Option.some.inj hf])
theorem tX9_count (E : pEv) (m : pMem) (a1 : Int32) {z : Int32} (hf : sX9_count a1 m = some z) : gCn E yX9_count kX9_count [.ref (eA E 9), .int a1] m (z, m) := gCn_of (by decide +kernel) rfl rfl rfl (Nat.le_of_ble_eq_true rfl) rfl (wX9_count_b0 E z a1 m  hf)
theorem wX9_isGround_b0 (E : pEv) (z : Int32) (a1 : Int32) (m : pMem) (hf : sX9_isGround a1 m = some z) : gM E kX9_isGround (z, m) 0 [(0, .ref (eA E 9)), (1, .int a1)] [] m := by
  unfold sX9_isGround at hf
  refine g_iload_n (q := 1) dX9_isGround_0 rfl rfl ?_
  refine g_iconst (v := 0) dX9_isGround_1 kI_0 ?_
  refine g_aload_n (q := 0) dX9_isGround_2 rfl rfl ?_
  refine g_get dX9_isGround_3 fX9_145 (obX9 E m) (gvX9_0 E m) ?_
  refine g_iconst (v := 1) dX9_isGround_6 kI_1 ?_
  refine g_isub dX9_isGround_7 ?_
  obtain ⟨r1, q2, hf⟩ := cbR_ hf
  refine g_cS (As := [.int a1, .int 0, .int ((m.1 9 0) - (1 : Int32))]) dX9_isGround_8 (tX9_in E m a1 0 ((m.1 9 0) - (1 : Int32)) q2) gyX9_in giX9_in mX9_148 (⟨rfl, rfl, Nat.le_of_ble_eq_true rfl, Nat.le_of_ble_eq_true rfl, Nat.le_of_ble_eq_true rfl, Nat.le_of_ble_eq_true rfl⟩) rfl rfl rfl (Nat.le_of_ble_eq_true rfl) ?_
  exact g_retz dX9_isGround_11 rfl (by rw [Option.some.inj hf])
theorem tX9_isGround (E : pEv) (m : pMem) (a1 : Int32) {z : Int32} (hf : sX9_isGround a1 m = some z) : gCn E yX9_isGround kX9_isGround [.ref (eA E 9), .int a1] m (z, m) := gCn_of (by decide +kernel) rfl rfl rfl (Nat.le_of_ble_eq_true rfl) rfl (wX9_isGround_b0 E z a1 m  hf)
theorem wX9_debt_b88 (E : pEv) (z : Int32 × pMem) (l1 : Int32) (l2 : Int32) (l3 : Int32) (l4 : Int32) (m : pMem) (hf : sX9_debt_b88 l1 l2 l3 l4 m = some z) : gM E kX9_debt z 88 [(0, .ref (eA E 9)), (1, .int l1), (2, .int l2), (3, .int l3), (4, .int l4)] [] m := by
  unfold sX9_debt_b88 at hf
  refine g_aload_n (q := 0) dX9_debt_88 rfl rfl ?_
  refine g_get dX9_debt_89 fX9_162 (obX9 E m) (gvX9_46 E m) ?_
  refine g_bipush (v := 8) dX9_debt_92 kB_8 ?_
  refine g_icmp_ne (tgt := 100) dX9_debt_94 (by decide) (fun c22 => ?_) (fun c22 => ?_)
  · have hf := it_ hf c22
    refine g_aload_n (q := 0) dX9_debt_100 rfl rfl ?_
    refine g_get dX9_debt_101 fX9_108 (obX9 E m) (gvX9_47 E m) ?_
    refine g_aload_n (q := 0) dX9_debt_104 rfl rfl ?_
    refine g_get dX9_debt_105 fX9_162 (obX9 E m) (gvX9_46 E m) ?_
    refine g_iload_n (q := 1) dX9_debt_108 rfl rfl ?_
    obtain ⟨h23, hf⟩ := gd_ hf
    refine g_iast dX9_debt_109 ar_95 h23 ?_
    refine nmG hf (fun m24 hf => ?_)
    refine g_aload_n (q := 0) dX9_debt_110 rfl rfl ?_
    refine g_get dX9_debt_111 fX9_111 (obX9 E m24) (gvX9_48 E m24) ?_
    refine g_aload_n (q := 0) dX9_debt_114 rfl rfl ?_
    refine g_get dX9_debt_115 fX9_162 (obX9 E m24) (gvX9_46 E m24) ?_
    refine g_iload_n (q := 2) dX9_debt_118 rfl rfl ?_
    obtain ⟨h25, hf⟩ := gd_ hf
    refine g_iast dX9_debt_119 ar_96 h25 ?_
    refine nmG hf (fun m26 hf => ?_)
    refine g_aload_n (q := 0) dX9_debt_120 rfl rfl ?_
    refine g_get dX9_debt_121 fX9_114 (obX9 E m26) (gvX9_49 E m26) ?_
    refine g_aload_n (q := 0) dX9_debt_124 rfl rfl ?_
    refine g_get dX9_debt_125 fX9_162 (obX9 E m26) (gvX9_46 E m26) ?_
    refine g_iload_n (q := 3) dX9_debt_128 rfl rfl ?_
    obtain ⟨h27, hf⟩ := gd_ hf
    refine g_iast dX9_debt_129 ar_97 h27 ?_
    refine nmG hf (fun m28 hf => ?_)
    refine g_aload_n (q := 0) dX9_debt_130 rfl rfl ?_
    refine g_get dX9_debt_131 fX9_117 (obX9 E m28) (gvX9_50 E m28) ?_
    refine g_aload_n (q := 0) dX9_debt_134 rfl rfl ?_
    refine g_get dX9_debt_135 fX9_162 (obX9 E m28) (gvX9_46 E m28) ?_
    refine g_iload (q := 4) dX9_debt_138 rfl ?_
    obtain ⟨h29, hf⟩ := gd_ hf
    refine g_iast dX9_debt_140 ar_98 h29 ?_
    refine nmG hf (fun m30 hf => ?_)
    refine g_aload_n (q := 0) dX9_debt_141 rfl rfl ?_
    refine g_dup dX9_debt_142 rfl ?_
    refine g_get dX9_debt_143 fX9_162 (obX9 E m30) (gvX9_46 E m30) ?_
    refine g_iconst (v := 1) dX9_debt_146 kI_1 ?_
    refine g_iadd dX9_debt_147 ?_
    refine g_put dX9_debt_148 fX9_162 fwX9_46 rfl rfl (obX9 E m30) (Nat.le_of_ble_eq_true rfl) (psX9_46 E m30 _) ?_
    refine nmG hf (fun m31 hf => ?_)
    refine g_aload_n (q := 0) dX9_debt_151 rfl rfl ?_
    refine g_get dX9_debt_152 fX9_162 (obX9 E m31) (gvX9_46 E m31) ?_
    refine g_iconst (v := 1) dX9_debt_155 kI_1 ?_
    refine g_isub dX9_debt_156 ?_
    exact g_ret dX9_debt_157 rfl rfl (Option.some.inj hf).symm
  · have hf := ie_ hf (not_not_intro c22)
    refine g_bipush (v := (-5)) dX9_debt_97 kB_m5 ?_
    exact g_ret dX9_debt_99 rfl rfl (Option.some.inj hf).symm
theorem wX9_debt_b43 (E : pEv) (z : Int32 × pMem) (m : pMem) (hf : sX9_debt_b43  m = some z) : gM E kX9_debt z 43 [] [] m := by
  unfold sX9_debt_b43 at hf
  refine g_bipush (v := (-3)) dX9_debt_43 kB_m3 ?_
  exact g_ret dX9_debt_45 rfl rfl (Option.some.inj hf).symm
theorem wX9_debt_b85 (E : pEv) (z : Int32 × pMem) (m : pMem) (hf : sX9_debt_b85  m = some z) : gM E kX9_debt z 85 [] [] m := by
  unfold sX9_debt_b85 at hf
  refine g_bipush (v := (-4)) dX9_debt_85 kB_m4 ?_
  exact g_ret dX9_debt_87 rfl rfl (Option.some.inj hf).symm
theorem wX9_debt_b24 (E : pEv) (z : Int32 × pMem) (l1 : Int32) (l2 : Int32) (l3 : Int32) (l4 : Int32) (m : pMem) (hf : sX9_debt_b24 l1 l2 l3 l4 m = some z) : gM E kX9_debt z 24 [(0, .ref (eA E 9)), (1, .int l1), (2, .int l2), (3, .int l3), (4, .int l4)] [] m := by
  unfold sX9_debt_b24 at hf
  refine g_iload_n (q := 2) dX9_debt_24 rfl rfl ?_
  refine g_iconst (v := 1) dX9_debt_25 kI_1 ?_
  refine g_sipush (v := 9999) dX9_debt_26 kS_9999 ?_
  obtain ⟨r8, q9, hf⟩ := cbR_ hf
  refine g_cS (As := [.int l2, .int 1, .int 9999]) dX9_debt_29 (tX9_in E m l2 1 9999 q9) gyX9_in giX9_in mX9_148 (⟨rfl, rfl, Nat.le_of_ble_eq_true rfl, Nat.le_of_ble_eq_true rfl, Nat.le_of_ble_eq_true rfl, Nat.le_of_ble_eq_true rfl⟩) rfl rfl rfl (Nat.le_of_ble_eq_true rfl) ?_
  refine g_if_eq (tgt := 43) dX9_debt_32 (by decide) (fun c10 => ?_) (fun c10 => ?_)
  · have hf := it_ hf c10
    refine g_lv [] rfl ?_
    exact wX9_debt_b43 E z  m hf
  · have hf := ie_ hf c10
    refine g_iload (q := 4) dX9_debt_35 rfl ?_
    obtain ⟨r11, q12, hf⟩ := cbR_ hf
    refine g_cS (As := [.int l4]) dX9_debt_37 (tX9_isDay E m l4 q12) gyX9_isDay giX9_isDay mX9_165 (⟨rfl, rfl, Nat.le_of_ble_eq_true rfl, Nat.le_of_ble_eq_true rfl, Nat.le_of_ble_eq_true rfl, Nat.le_of_ble_eq_true rfl⟩) rfl rfl rfl (Nat.le_of_ble_eq_true rfl) ?_
    refine g_if_ne (tgt := 46) dX9_debt_40 (by decide) (fun c13 => ?_) (fun c13 => ?_)
    · have hf := it_ hf c13
      refine g_aload_n (q := 0) dX9_debt_46 rfl rfl ?_
      refine g_iload (q := 4) dX9_debt_47 rfl ?_
      obtain ⟨r14, q15, hf⟩ := cbR_ hf
      refine g_cV (As := [.int l4]) dX9_debt_49 (tX9_doneBy E m l4 q15) gyX9_doneBy giX9_doneBy gsX9_doneBy mX9_183 (⟨rfl, rfl, Nat.le_of_ble_eq_true rfl, Nat.le_of_ble_eq_true rfl, Nat.le_of_ble_eq_true rfl, Nat.le_of_ble_eq_true rfl⟩) rfl (obX9 E m) rfl rfl rfl (Nat.le_of_ble_eq_true rfl) ?_
      refine g_istore dX9_debt_52 (Nat.le_of_ble_eq_true rfl) rfl ?_
      refine g_aload_n (q := 1) dX9_debt_54 rfl rfl ?_
      refine g_iload_n (q := 2) dX9_debt_55 rfl rfl ?_
      refine g_iload (q := 0) dX9_debt_56 rfl ?_
      obtain ⟨r16, q17, hf⟩ := cbR_ hf
      refine g_cV (As := [.int l1, .int r14]) dX9_debt_58 (tX9_isThere E m l1 r14 q17) gyX9_isThere giX9_isThere gsX9_isThere mX9_172 (⟨rfl, rfl, Nat.le_of_ble_eq_true rfl, Nat.le_of_ble_eq_true rfl, Nat.le_of_ble_eq_true rfl, Nat.le_of_ble_eq_true rfl⟩) rfl (obX9 E m) rfl rfl rfl (Nat.le_of_ble_eq_true rfl) ?_
      refine g_if_eq (tgt := 85) dX9_debt_61 (by decide) (fun c18 => ?_) (fun c18 => ?_)
      · have hf := it_ hf c18
        refine g_lv [] rfl ?_
        exact wX9_debt_b85 E z  m hf
      · have hf := ie_ hf c18
        refine g_iload_n (q := 4) dX9_debt_64 rfl rfl ?_
        refine g_iconst (v := (-1)) dX9_debt_65 kI_m1 ?_
        refine g_icmp_eq (tgt := 88) dX9_debt_66 (by decide) (fun c19 => ?_) (fun c19 => ?_)
        · have hf := it_ hf c19
          refine g_lv [1, 2, 3, 4, 5] rfl ?_
          exact wX9_debt_b88 E z  l1 l2 l3 l4 m hf
        · have hf := ie_ hf c19
          refine g_aload_n (q := 1) dX9_debt_69 rfl rfl ?_
          refine g_get dX9_debt_70 fX9_44 (obX9 E m) (gvX9_13 E m) ?_
          refine g_bipush (v := 8) dX9_debt_73 kB_8 ?_
          refine g_iload (q := 0) dX9_debt_75 rfl ?_
          refine g_imul dX9_debt_77 ?_
          refine g_iload_n (q := 4) dX9_debt_78 rfl rfl ?_
          refine g_iadd dX9_debt_79 ?_
          obtain ⟨h20, hf⟩ := gd_ hf
          refine g_iald dX9_debt_80 ar_74 h20 ?_
          refine g_iload_n (q := 2) dX9_debt_81 rfl rfl ?_
          refine g_icmp_eq (tgt := 88) dX9_debt_82 (by decide) (fun c21 => ?_) (fun c21 => ?_)
          · have hf := it_ hf c21
            refine g_lv [1, 2, 3, 4, 5] rfl ?_
            exact wX9_debt_b88 E z  l1 l2 l3 l4 m hf
          · have hf := ie_ hf c21
            refine g_lv [] rfl ?_
            exact wX9_debt_b85 E z  m hf
    · have hf := ie_ hf (not_not_intro c13)
      refine g_lv [] rfl ?_
      exact wX9_debt_b43 E z  m hf
theorem wX9_debt_b21 (E : pEv) (z : Int32 × pMem) (m : pMem) (hf : sX9_debt_b21  m = some z) : gM E kX9_debt z 21 [] [] m := by
  unfold sX9_debt_b21 at hf
  refine g_bipush (v := (-2)) dX9_debt_21 kB_m2 ?_
  exact g_ret dX9_debt_23 rfl rfl (Option.some.inj hf).symm
theorem wX9_debt_b0 (E : pEv) (z : Int32 × pMem) (a1 : Int32) (a2 : Int32) (a3 : Int32) (a4 : Int32) (m : pMem) (hf : sX9_debt a1 a2 a3 a4 m = some z) : gM E kX9_debt z 0 [(0, .ref (eA E 9)), (1, .int a1), (2, .int a2), (3, .int a3), (4, .int a4)] [] m := by
  unfold sX9_debt at hf
  refine g_aload_n (q := 0) dX9_debt_0 rfl rfl ?_
  refine g_iload_n (q := 1) dX9_debt_1 rfl rfl ?_
  obtain ⟨r1, q2, hf⟩ := cbR_ hf
  refine g_cV (As := [.int a1]) dX9_debt_2 (tX9_isLand E m a1 q2) gyX9_isLand giX9_isLand gsX9_isLand mX9_187 (⟨rfl, rfl, Nat.le_of_ble_eq_true rfl, Nat.le_of_ble_eq_true rfl, Nat.le_of_ble_eq_true rfl, Nat.le_of_ble_eq_true rfl⟩) rfl (obX9 E m) rfl rfl rfl (Nat.le_of_ble_eq_true rfl) ?_
  refine g_if_eq (tgt := 21) dX9_debt_5 (by decide) (fun c3 => ?_) (fun c3 => ?_)
  · have hf := it_ hf c3
    refine g_lv [] rfl ?_
    exact wX9_debt_b21 E z  m hf
  · have hf := ie_ hf c3
    refine g_iload_n (q := 3) dX9_debt_8 rfl rfl ?_
    refine g_iconst (v := (-1)) dX9_debt_9 kI_m1 ?_
    refine g_icmp_eq (tgt := 24) dX9_debt_10 (by decide) (fun c4 => ?_) (fun c4 => ?_)
    · have hf := it_ hf c4
      exact wX9_debt_b24 E z  a1 a2 a3 a4 m hf
    · have hf := ie_ hf c4
      refine g_aload_n (q := 0) dX9_debt_13 rfl rfl ?_
      refine g_iload_n (q := 3) dX9_debt_14 rfl rfl ?_
      obtain ⟨r5, q6, hf⟩ := cbR_ hf
      refine g_cV (As := [.int a3]) dX9_debt_15 (tX9_isGround E m a3 q6) gyX9_isGround giX9_isGround gsX9_isGround mX9_190 (⟨rfl, rfl, Nat.le_of_ble_eq_true rfl, Nat.le_of_ble_eq_true rfl, Nat.le_of_ble_eq_true rfl, Nat.le_of_ble_eq_true rfl⟩) rfl (obX9 E m) rfl rfl rfl (Nat.le_of_ble_eq_true rfl) ?_
      refine g_if_ne (tgt := 24) dX9_debt_18 (by decide) (fun c7 => ?_) (fun c7 => ?_)
      · have hf := it_ hf c7
        exact wX9_debt_b24 E z  a1 a2 a3 a4 m hf
      · have hf := ie_ hf (not_not_intro c7)
        refine g_lv [] rfl ?_
        exact wX9_debt_b21 E z  m hf
theorem tX9_debt (E : pEv) (m : pMem) (a1 : Int32) (a2 : Int32) (a3 : Int32) (a4 : Int32) {z : Int32 × pMem} (hf : sX9_debt a1 a2 a3 a4 m = some z) : gCn E yX9_debt kX9_debt [.ref (eA E 9), .int a1, .int a2, .int a3, .int a4] m z := gCn_of (by decide +kernel) rfl rfl rfl (Nat.le_of_ble_eq_true rfl) rfl (wX9_debt_b0 E z a1 a2 a3 a4 m  hf)
theorem wX9_erase_b0 (E : pEv) (z : Int32 × pMem) (m : pMem) (hf : sX9_erase  m = some z) : gM E kX9_erase z 0 [(0, .ref (eA E 9))] [] m := by
  unfold sX9_erase at hf
  refine g_aload_n (q := 0) dX9_erase_0 rfl rfl ?_
  refine g_get dX9_erase_1 fX9_202 (obX9 E m) (gvX9_15 E m) ?_
  refine nmI hf (fun x1 hf => ?_)
  refine g_istore_n dX9_erase_4 rfl (Nat.le_of_ble_eq_true rfl) rfl ?_
  refine g_aload_n (q := 1) dX9_erase_5 rfl rfl ?_
  refine g_iconst (v := 0) dX9_erase_6 kI_0 ?_
  refine g_put dX9_erase_7 fX9_202 fwX9_15 rfl rfl (obX9 E m) (Nat.le_of_ble_eq_true rfl) (psX9_15 E m _) ?_
  refine nmG hf (fun m2 hf => ?_)
  refine g_iload_n (q := 0) dX9_erase_10 rfl rfl ?_
  exact g_ret dX9_erase_11 rfl rfl (Option.some.inj hf).symm
theorem tX9_erase (E : pEv) (m : pMem) {z : Int32 × pMem} (hf : sX9_erase  m = some z) : gCn E yX9_erase kX9_erase [.ref (eA E 9)] m z := gCn_of (by decide +kernel) rfl rfl rfl (Nat.le_of_ble_eq_true rfl) rfl (wX9_erase_b0 E z  m  hf)
theorem wX9_fails_b0 (E : pEv) (z : Int32 × pMem) (m : pMem) (hf : sX9_fails  m = some z) : gM E kX9_fails z 0 [(0, .ref (eA E 9))] [] m := by
  unfold sX9_fails at hf
  refine g_aload_n (q := 0) dX9_fails_0 rfl rfl ?_
  refine g_aload_n (q := 0) dX9_fails_1 rfl rfl ?_
  refine g_get dX9_fails_2 fX9_210 (obX9 E m) (gvX9_18 E m) ?_
  refine g_put dX9_fails_5 fX9_235 fwX9_22 rfl rfl (obX9 E m) (Nat.le_of_ble_eq_true rfl) (psX9_22 E m _) ?_
  refine nmG hf (fun m1 hf => ?_)
  refine g_iconst (v := 0) dX9_fails_8 kI_0 ?_
  exact g_ret dX9_fails_9 rfl kz_0 (Option.some.inj hf).symm
theorem tX9_fails (E : pEv) (m : pMem) {z : Int32 × pMem} (hf : sX9_fails  m = some z) : gCn E yX9_fails kX9_fails [.ref (eA E 9)] m z := gCn_of (by decide +kernel) rfl rfl rfl (Nat.le_of_ble_eq_true rfl) rfl (wX9_fails_b0 E z  m  hf)
theorem wX9_firstRules_b20 (E : pEv) (z : Int32 × pMem) (k2 : Nat → Int32 → pMem → gO) (ih2 : ∀ (l0 : Nat) (l1 : Int32)  (m : pMem) (hl0 : gAr l0 5 .int), k2 l0 l1 m = some z → gM E kX9_firstRules z 2 [(0, .ref (eA E l0)), (1, .int l1)] [] m) (l0 : Nat) (l1 : Int32) (t0 : Int32) (t1 : Int32) (t2 : Nat) (m : pMem) (hl0 : gAr l0 5 .int) (ht2 : gAr t2 5 .int) (hf : sX9_firstRules_b20 k2 l0 l1 t0 t1 t2 m = some z) : gM E kX9_firstRules z 20 [(0, .ref (eA E l0)), (1, .int l1)] [.int t0, .int t1, .ref (eA E t2)] m := by
  unfold sX9_firstRules_b20 at hf
  obtain ⟨h3, hf⟩ := gd_ hf
  refine g_iast dX9_firstRules_20 ht2 h3 ?_
  refine nmG hf (fun m4 hf => ?_)
  refine g_iinc (q := 1) (v := l1 + 1) dX9_firstRules_21 rfl (by rw [kI_1]) (Nat.le_of_ble_eq_true rfl) rfl ?_
  refine g_goto (tgt := 2) dX9_firstRules_24 (by decide) ?_
  refine g_lv [1, 0] rfl ?_
  exact ih2 l0 (l1 + 1) m4 hl0 hf
theorem wX9_firstRules_b2 (E : pEv) (z : Int32 × pMem) (k2 : Nat → Int32 → pMem → gO) (ih2 : ∀ (l0 : Nat) (l1 : Int32)  (m : pMem) (hl0 : gAr l0 5 .int), k2 l0 l1 m = some z → gM E kX9_firstRules z 2 [(0, .ref (eA E l0)), (1, .int l1)] [] m) (l0 : Nat) (l1 : Int32) (m : pMem) (hl0 : gAr l0 5 .int) (hf : sX9_firstRules_b2 k2 l0 l1 m = some z) : gM E kX9_firstRules z 2 [(0, .ref (eA E l0)), (1, .int l1)] [] m := by
  unfold sX9_firstRules_b2 at hf
  refine g_iload_n (q := 1) dX9_firstRules_2 rfl rfl ?_
  refine g_iconst (v := 5) dX9_firstRules_3 kI_5 ?_
  refine g_icmp_ge (tgt := 27) dX9_firstRules_4 (by decide) (fun c1 => ?_) (fun c1 => ?_)
  · have hf := it_ hf c1
    exact g_retv dX9_firstRules_27 rfl (by rw [← Option.some.inj hf])
  · have hf := ie_ hf c1
    refine g_aload_n (q := 0) dX9_firstRules_7 rfl rfl ?_
    refine g_iload_n (q := 1) dX9_firstRules_8 rfl rfl ?_
    refine g_iload_n (q := 1) dX9_firstRules_9 rfl rfl ?_
    refine g_iconst (v := 2) dX9_firstRules_10 kI_2 ?_
    refine g_icmp_ne (tgt := 19) dX9_firstRules_11 (by decide) (fun c2 => ?_) (fun c2 => ?_)
    · have hf := it_ hf c2
      refine g_iconst (v := 0) dX9_firstRules_19 kI_0 ?_
      exact wX9_firstRules_b20 E z k2 ih2 l0 l1 0 l1 l0 m hl0 hl0 hf
    · have hf := ie_ hf (not_not_intro c2)
      refine g_bipush (v := 100) dX9_firstRules_14 kB_100 ?_
      refine g_goto (tgt := 20) dX9_firstRules_16 (by decide) ?_
      exact wX9_firstRules_b20 E z k2 ih2 l0 l1 100 l1 l0 m hl0 hl0 hf
theorem wX9_firstRules_l2 (E : pEv) (z : Int32 × pMem) : ∀ (n : Nat) (l0 : Nat) (l1 : Int32) (m : pMem) (hl0 : gAr l0 5 .int), sX9_firstRules_l2 n l0 l1 m = some z → gM E kX9_firstRules z 2 [(0, .ref (eA E l0)), (1, .int l1)] [] m := by
  intro n
  induction n with
  | zero => intro l0 l1 m hl0 hf; cases (show (none : Option _) = some z from hf)
  | succ n ih => intro l0 l1 m hl0 hf; exact wX9_firstRules_b2 E z  _  ih l0 l1 m hl0 hf
theorem wX9_firstRules_b0 (E : pEv) (z : Int32 × pMem) (a1 : Nat) (m : pMem) (ha1 : gAr a1 5 .int) (hf : sX9_firstRules a1 m = some z) : gM E kX9_firstRules z 0 [(0, .ref (eA E a1))] [] m := by
  unfold sX9_firstRules at hf
  refine g_iconst (v := 0) dX9_firstRules_0 kI_0 ?_
  refine g_istore_n dX9_firstRules_1 rfl (Nat.le_of_ble_eq_true rfl) rfl ?_
  refine g_lv [1, 0] rfl ?_
  exact wX9_firstRules_l2 E z  5000 a1 0 m ha1 hf
theorem tX9_firstRules (E : pEv) (m : pMem) (a1 : Nat) (ha1 : gAr a1 5 .int) {z : Int32 × pMem} (hf : sX9_firstRules a1 m = some z) : gCn E yX9_firstRules kX9_firstRules [.ref (eA E a1)] m z := gCn_of (by decide +kernel) rfl rfl rfl (Nat.le_of_ble_eq_true rfl) rfl (wX9_firstRules_b0 E z a1 m ha1 hf)
theorem wX9_nextToken_b307 (E : pEv) (z : Int32 × pMem) (k241 : pMem → gO) (ih241 : ∀  (m : pMem), k241  m = some z → gM E kX9_nextToken z 241 [(0, .ref (eA E 9))] [] m) (t0 : Int32) (m : pMem) (hf : sX9_nextToken_b307 k241 t0 m = some z) : gM E kX9_nextToken z 307 [(0, .ref (eA E 9))] [.int t0, .ref (eA E 9)] m := by
  unfold sX9_nextToken_b307 at hf
  refine g_put dX9_nextToken_307 fX9_216 fwX9_21 rfl rfl (obX9 E m) (Nat.le_of_ble_eq_true rfl) (psX9_21 E m _) ?_
  refine nmG hf (fun m38 hf => ?_)
  refine g_aload_n (q := 0) dX9_nextToken_310 rfl rfl ?_
  refine g_dup dX9_nextToken_311 rfl ?_
  refine g_get dX9_nextToken_312 fX9_213 (obX9 E m38) (gvX9_20 E m38) ?_
  refine g_iconst (v := 1) dX9_nextToken_315 kI_1 ?_
  refine g_iadd dX9_nextToken_316 ?_
  refine g_put dX9_nextToken_317 fX9_213 fwX9_20 rfl rfl (obX9 E m38) (Nat.le_of_ble_eq_true rfl) (psX9_20 E m38 _) ?_
  refine nmG hf (fun m39 hf => ?_)
  refine g_aload_n (q := 0) dX9_nextToken_320 rfl rfl ?_
  refine g_dup dX9_nextToken_321 rfl ?_
  refine g_get dX9_nextToken_322 fX9_207 (obX9 E m39) (gvX9_17 E m39) ?_
  refine g_iconst (v := 1) dX9_nextToken_325 kI_1 ?_
  refine g_iadd dX9_nextToken_326 ?_
  refine g_put dX9_nextToken_327 fX9_207 fwX9_17 rfl rfl (obX9 E m39) (Nat.le_of_ble_eq_true rfl) (psX9_17 E m39 _) ?_
  refine nmG hf (fun m40 hf => ?_)
  refine g_goto (tgt := 241) dX9_nextToken_330 (by decide) ?_
  exact ih241 m40 hf
theorem wX9_nextToken_b394 (E : pEv) (z : Int32 × pMem) (m : pMem) (hf : sX9_nextToken_b394  m = some z) : gM E kX9_nextToken z 394 [] [] m := by
  unfold sX9_nextToken_b394 at hf
  exact g_retv dX9_nextToken_394 rfl (by rw [← Option.some.inj hf])
theorem wX9_nextToken_b351 (E : pEv) (z : Int32 × pMem) (t0 : Int64) (m : pMem) (hf : sX9_nextToken_b351 t0 m = some z) : gM E kX9_nextToken z 351 [] [.long t0, .ref (eA E 9)] m := by
  unfold sX9_nextToken_b351 at hf
  refine g_put dX9_nextToken_351 fX9_221 fwX9_19 rfl rfl (obX9 E m) (Nat.le_of_ble_eq_true rfl) (psX9_19 E m _) ?_
  refine nmG hf (fun m44 hf => ?_)
  refine g_goto (tgt := 394) dX9_nextToken_354 (by decide) ?_
  exact wX9_nextToken_b394 E z  m44 hf
theorem wX9_nextToken_b333 (E : pEv) (z : Int32 × pMem) (m : pMem) (hf : sX9_nextToken_b333  m = some z) : gM E kX9_nextToken z 333 [(0, .ref (eA E 9))] [] m := by
  unfold sX9_nextToken_b333 at hf
  refine g_aload_n (q := 0) dX9_nextToken_333 rfl rfl ?_
  refine g_aload_n (q := 0) dX9_nextToken_334 rfl rfl ?_
  refine g_get dX9_nextToken_335 fX9_213 (obX9 E m) (gvX9_20 E m) ?_
  refine g_iconst (v := 3) dX9_nextToken_338 kI_3 ?_
  refine g_icmp_le (tgt := 348) dX9_nextToken_339 (by decide) (fun c37 => ?_) (fun c37 => ?_)
  · have hf := it_ hf c37
    refine g_ldc2 dX9_nextToken_348 cX9_231 ?_
    refine g_lv [] rfl ?_
    exact wX9_nextToken_b351 E z  (-1) m hf
  · have hf := ie_ hf c37
    refine g_ldc2 dX9_nextToken_342 cX9_229 ?_
    refine g_goto (tgt := 351) dX9_nextToken_345 (by decide) ?_
    refine g_lv [] rfl ?_
    exact wX9_nextToken_b351 E z  (-4) m hf
theorem wX9_nextToken_b241 (E : pEv) (z : Int32 × pMem) (k241 : pMem → gO) (ih241 : ∀  (m : pMem), k241  m = some z → gM E kX9_nextToken z 241 [(0, .ref (eA E 9))] [] m) (m : pMem) (hf : sX9_nextToken_b241 k241 m = some z) : gM E kX9_nextToken z 241 [(0, .ref (eA E 9))] [] m := by
  unfold sX9_nextToken_b241 at hf
  refine g_aload_n (q := 0) dX9_nextToken_241 rfl rfl ?_
  refine g_get dX9_nextToken_242 fX9_207 (obX9 E m) (gvX9_17 E m) ?_
  refine g_aload_n (q := 0) dX9_nextToken_245 rfl rfl ?_
  refine g_get dX9_nextToken_246 fX9_202 (obX9 E m) (gvX9_15 E m) ?_
  refine g_icmp_ge (tgt := 333) dX9_nextToken_249 (by decide) (fun c23 => ?_) (fun c23 => ?_)
  · have hf := it_ hf c23
    exact wX9_nextToken_b333 E z  m hf
  · have hf := ie_ hf c23
    refine g_aload_n (q := 0) dX9_nextToken_252 rfl rfl ?_
    refine g_get dX9_nextToken_253 fX9_50 (obX9 E m) (gvX9_16 E m) ?_
    refine g_aload_n (q := 0) dX9_nextToken_256 rfl rfl ?_
    refine g_get dX9_nextToken_257 fX9_207 (obX9 E m) (gvX9_17 E m) ?_
    obtain ⟨h24, hf⟩ := gd_ hf
    refine g_iald dX9_nextToken_260 ar_76 h24 ?_
    refine g_bipush (v := 48) dX9_nextToken_261 kB_48 ?_
    refine g_bipush (v := 57) dX9_nextToken_263 kB_57 ?_
    obtain ⟨r25, q26, hf⟩ := cbR_ hf
    refine g_cS (As := [.int (m.1 76 ((m.1 9 17).toNatClampNeg)), .int 48, .int 57]) dX9_nextToken_265 (tX9_in E m (m.1 76 ((m.1 9 17).toNatClampNeg)) 48 57 q26) gyX9_in giX9_in mX9_148 (⟨rfl, rfl, Nat.le_of_ble_eq_true rfl, Nat.le_of_ble_eq_true rfl, Nat.le_of_ble_eq_true rfl, Nat.le_of_ble_eq_true rfl⟩) rfl rfl rfl (Nat.le_of_ble_eq_true rfl) ?_
    refine g_if_eq (tgt := 333) dX9_nextToken_268 (by decide) (fun c27 => ?_) (fun c27 => ?_)
    · have hf := it_ hf c27
      exact wX9_nextToken_b333 E z  m hf
    · have hf := ie_ hf c27
      refine g_aload_n (q := 0) dX9_nextToken_271 rfl rfl ?_
      refine g_aload_n (q := 0) dX9_nextToken_272 rfl rfl ?_
      refine g_get dX9_nextToken_273 fX9_213 (obX9 E m) (gvX9_20 E m) ?_
      refine g_iconst (v := 3) dX9_nextToken_276 kI_3 ?_
      refine g_icmp_ge (tgt := 303) dX9_nextToken_277 (by decide) (fun c28 => ?_) (fun c28 => ?_)
      · have hf := it_ hf c28
        refine g_aload_n (q := 0) dX9_nextToken_303 rfl rfl ?_
        refine g_get dX9_nextToken_304 fX9_216 (obX9 E m) (gvX9_21 E m) ?_
        exact wX9_nextToken_b307 E z k241 ih241 (m.1 9 21) m hf
      · have hf := ie_ hf c28
        refine g_bipush (v := 10) dX9_nextToken_280 kB_10 ?_
        refine g_aload_n (q := 0) dX9_nextToken_282 rfl rfl ?_
        refine g_get dX9_nextToken_283 fX9_216 (obX9 E m) (gvX9_21 E m) ?_
        refine g_imul dX9_nextToken_286 ?_
        refine g_aload_n (q := 0) dX9_nextToken_287 rfl rfl ?_
        refine g_get dX9_nextToken_288 fX9_50 (obX9 E m) (gvX9_16 E m) ?_
        refine g_aload_n (q := 0) dX9_nextToken_291 rfl rfl ?_
        refine g_get dX9_nextToken_292 fX9_207 (obX9 E m) (gvX9_17 E m) ?_
        obtain ⟨h29, hf⟩ := gd_ hf
        refine g_iald dX9_nextToken_295 ar_76 h29 ?_
        refine g_iadd dX9_nextToken_296 ?_
        refine g_bipush (v := 48) dX9_nextToken_297 kB_48 ?_
        refine g_isub dX9_nextToken_299 ?_
        refine g_goto (tgt := 307) dX9_nextToken_300 (by decide) ?_
        exact wX9_nextToken_b307 E z k241 ih241 ((((10 : Int32) * (m.1 9 21)) + (m.1 76 ((m.1 9 17).toNatClampNeg))) - (48 : Int32)) m hf
theorem wX9_nextToken_l241 (E : pEv) (z : Int32 × pMem) : ∀ (n : Nat) (m : pMem), sX9_nextToken_l241 n  m = some z → gM E kX9_nextToken z 241 [(0, .ref (eA E 9))] [] m := by
  intro n
  induction n with
  | zero => intro  m  hf; cases (show (none : Option _) = some z from hf)
  | succ n ih => intro  m  hf; exact wX9_nextToken_b241 E z  _  ih  m  hf
theorem wX9_nextToken_b175 (E : pEv) (z : Int32 × pMem) (k101 : pMem → gO) (ih101 : ∀  (m : pMem), k101  m = some z → gM E kX9_nextToken z 101 [(0, .ref (eA E 9))] [] m) (t0 : Int64) (m : pMem) (hf : sX9_nextToken_b175 k101 t0 m = some z) : gM E kX9_nextToken z 175 [(0, .ref (eA E 9))] [.long t0, .ref (eA E 9)] m := by
  unfold sX9_nextToken_b175 at hf
  refine g_put dX9_nextToken_175 fX9_221 fwX9_19 rfl rfl (obX9 E m) (Nat.le_of_ble_eq_true rfl) (psX9_19 E m _) ?_
  refine nmG hf (fun m42 hf => ?_)
  refine g_aload_n (q := 0) dX9_nextToken_178 rfl rfl ?_
  refine g_dup dX9_nextToken_179 rfl ?_
  refine g_get dX9_nextToken_180 fX9_207 (obX9 E m42) (gvX9_17 E m42) ?_
  refine g_iconst (v := 1) dX9_nextToken_183 kI_1 ?_
  refine g_iadd dX9_nextToken_184 ?_
  refine g_put dX9_nextToken_185 fX9_207 fwX9_17 rfl rfl (obX9 E m42) (Nat.le_of_ble_eq_true rfl) (psX9_17 E m42 _) ?_
  refine nmG hf (fun m43 hf => ?_)
  refine g_goto (tgt := 101) dX9_nextToken_188 (by decide) ?_
  exact ih101 m43 hf
theorem wX9_nextToken_b216 (E : pEv) (z : Int32 × pMem) (t0 : Int64) (m : pMem) (hf : sX9_nextToken_b216 t0 m = some z) : gM E kX9_nextToken z 216 [] [.long t0, .ref (eA E 9)] m := by
  unfold sX9_nextToken_b216 at hf
  refine g_put dX9_nextToken_216 fX9_221 fwX9_19 rfl rfl (obX9 E m) (Nat.le_of_ble_eq_true rfl) (psX9_19 E m _) ?_
  refine nmG hf (fun m45 hf => ?_)
  refine g_goto (tgt := 394) dX9_nextToken_219 (by decide) ?_
  exact wX9_nextToken_b394 E z  m45 hf
theorem wX9_nextToken_b191 (E : pEv) (z : Int32 × pMem) (m : pMem) (hf : sX9_nextToken_b191  m = some z) : gM E kX9_nextToken z 191 [(0, .ref (eA E 9))] [] m := by
  unfold sX9_nextToken_b191 at hf
  refine g_aload_n (q := 0) dX9_nextToken_191 rfl rfl ?_
  refine g_aload_n (q := 0) dX9_nextToken_192 rfl rfl ?_
  refine g_get dX9_nextToken_193 fX9_207 (obX9 E m) (gvX9_17 E m) ?_
  refine g_aload_n (q := 0) dX9_nextToken_196 rfl rfl ?_
  refine g_get dX9_nextToken_197 fX9_210 (obX9 E m) (gvX9_18 E m) ?_
  refine g_isub dX9_nextToken_200 ?_
  refine g_bipush (v := 9) dX9_nextToken_201 kB_9 ?_
  refine g_icmp_le (tgt := 212) dX9_nextToken_203 (by decide) (fun c41 => ?_) (fun c41 => ?_)
  · have hf := it_ hf c41
    refine g_aload_n (q := 0) dX9_nextToken_212 rfl rfl ?_
    refine g_get dX9_nextToken_213 fX9_221 (obX9 E m) (gvX9_19 E m) ?_
    refine g_lv [] rfl ?_
    exact wX9_nextToken_b216 E z  (m.2 9 19) m hf
  · have hf := ie_ hf c41
    refine g_ldc2 dX9_nextToken_206 cX9_229 ?_
    refine g_goto (tgt := 216) dX9_nextToken_209 (by decide) ?_
    refine g_lv [] rfl ?_
    exact wX9_nextToken_b216 E z  (-4) m hf
theorem wX9_nextToken_b101 (E : pEv) (z : Int32 × pMem) (k101 : pMem → gO) (ih101 : ∀  (m : pMem), k101  m = some z → gM E kX9_nextToken z 101 [(0, .ref (eA E 9))] [] m) (m : pMem) (hf : sX9_nextToken_b101 k101 m = some z) : gM E kX9_nextToken z 101 [(0, .ref (eA E 9))] [] m := by
  unfold sX9_nextToken_b101 at hf
  refine g_aload_n (q := 0) dX9_nextToken_101 rfl rfl ?_
  refine g_get dX9_nextToken_102 fX9_207 (obX9 E m) (gvX9_17 E m) ?_
  refine g_aload_n (q := 0) dX9_nextToken_105 rfl rfl ?_
  refine g_get dX9_nextToken_106 fX9_202 (obX9 E m) (gvX9_15 E m) ?_
  refine g_icmp_ge (tgt := 191) dX9_nextToken_109 (by decide) (fun c30 => ?_) (fun c30 => ?_)
  · have hf := it_ hf c30
    exact wX9_nextToken_b191 E z  m hf
  · have hf := ie_ hf c30
    refine g_aload_n (q := 0) dX9_nextToken_112 rfl rfl ?_
    refine g_get dX9_nextToken_113 fX9_50 (obX9 E m) (gvX9_16 E m) ?_
    refine g_aload_n (q := 0) dX9_nextToken_116 rfl rfl ?_
    refine g_get dX9_nextToken_117 fX9_207 (obX9 E m) (gvX9_17 E m) ?_
    obtain ⟨h31, hf⟩ := gd_ hf
    refine g_iald dX9_nextToken_120 ar_76 h31 ?_
    refine g_bipush (v := 97) dX9_nextToken_121 kB_97 ?_
    refine g_bipush (v := 122) dX9_nextToken_123 kB_122 ?_
    obtain ⟨r32, q33, hf⟩ := cbR_ hf
    refine g_cS (As := [.int (m.1 76 ((m.1 9 17).toNatClampNeg)), .int 97, .int 122]) dX9_nextToken_125 (tX9_in E m (m.1 76 ((m.1 9 17).toNatClampNeg)) 97 122 q33) gyX9_in giX9_in mX9_148 (⟨rfl, rfl, Nat.le_of_ble_eq_true rfl, Nat.le_of_ble_eq_true rfl, Nat.le_of_ble_eq_true rfl, Nat.le_of_ble_eq_true rfl⟩) rfl rfl rfl (Nat.le_of_ble_eq_true rfl) ?_
    refine g_if_eq (tgt := 191) dX9_nextToken_128 (by decide) (fun c34 => ?_) (fun c34 => ?_)
    · have hf := it_ hf c34
      exact wX9_nextToken_b191 E z  m hf
    · have hf := ie_ hf c34
      refine g_aload_n (q := 0) dX9_nextToken_131 rfl rfl ?_
      refine g_aload_n (q := 0) dX9_nextToken_132 rfl rfl ?_
      refine g_get dX9_nextToken_133 fX9_207 (obX9 E m) (gvX9_17 E m) ?_
      refine g_aload_n (q := 0) dX9_nextToken_136 rfl rfl ?_
      refine g_get dX9_nextToken_137 fX9_210 (obX9 E m) (gvX9_18 E m) ?_
      refine g_isub dX9_nextToken_140 ?_
      refine g_bipush (v := 9) dX9_nextToken_141 kB_9 ?_
      refine g_icmp_ge (tgt := 172) dX9_nextToken_143 (by decide) (fun c35 => ?_) (fun c35 => ?_)
      · have hf := it_ hf c35
        refine g_ldc2 dX9_nextToken_172 cX9_229 ?_
        exact wX9_nextToken_b175 E z k101 ih101 (-4) m hf
      · have hf := ie_ hf c35
        refine g_ldc2 dX9_nextToken_146 cX9_225 ?_
        refine g_aload_n (q := 0) dX9_nextToken_149 rfl rfl ?_
        refine g_get dX9_nextToken_150 fX9_221 (obX9 E m) (gvX9_19 E m) ?_
        refine g_lmul dX9_nextToken_153 ?_
        refine g_aload_n (q := 0) dX9_nextToken_154 rfl rfl ?_
        refine g_get dX9_nextToken_155 fX9_50 (obX9 E m) (gvX9_16 E m) ?_
        refine g_aload_n (q := 0) dX9_nextToken_158 rfl rfl ?_
        refine g_get dX9_nextToken_159 fX9_207 (obX9 E m) (gvX9_17 E m) ?_
        obtain ⟨h36, hf⟩ := gd_ hf
        refine g_iald dX9_nextToken_162 ar_76 h36 ?_
        refine g_i2l dX9_nextToken_163 ?_
        refine g_ladd dX9_nextToken_164 ?_
        refine g_ldc2 dX9_nextToken_165 cX9_227 ?_
        refine g_lsub dX9_nextToken_168 ?_
        refine g_goto (tgt := 175) dX9_nextToken_169 (by decide) ?_
        exact wX9_nextToken_b175 E z k101 ih101 ((((27 : Int64) * (m.2 9 19)) + ((m.1 76 ((m.1 9 17).toNatClampNeg)).toInt64)) - (96 : Int64)) m hf
theorem wX9_nextToken_l101 (E : pEv) (z : Int32 × pMem) : ∀ (n : Nat) (m : pMem), sX9_nextToken_l101 n  m = some z → gM E kX9_nextToken z 101 [(0, .ref (eA E 9))] [] m := by
  intro n
  induction n with
  | zero => intro  m  hf; cases (show (none : Option _) = some z from hf)
  | succ n ih => intro  m  hf; exact wX9_nextToken_b101 E z  _  ih  m  hf
theorem wX9_nextToken_b381 (E : pEv) (z : Int32 × pMem) (t0 : Int64) (m : pMem) (hf : sX9_nextToken_b381 t0 m = some z) : gM E kX9_nextToken z 381 [(0, .ref (eA E 9))] [.long t0, .ref (eA E 9)] m := by
  unfold sX9_nextToken_b381 at hf
  refine g_put dX9_nextToken_381 fX9_221 fwX9_19 rfl rfl (obX9 E m) (Nat.le_of_ble_eq_true rfl) (psX9_19 E m _) ?_
  refine nmG hf (fun m21 hf => ?_)
  refine g_aload_n (q := 0) dX9_nextToken_384 rfl rfl ?_
  refine g_dup dX9_nextToken_385 rfl ?_
  refine g_get dX9_nextToken_386 fX9_207 (obX9 E m21) (gvX9_17 E m21) ?_
  refine g_iconst (v := 1) dX9_nextToken_389 kI_1 ?_
  refine g_iadd dX9_nextToken_390 ?_
  refine g_put dX9_nextToken_391 fX9_207 fwX9_17 rfl rfl (obX9 E m21) (Nat.le_of_ble_eq_true rfl) (psX9_17 E m21 _) ?_
  refine nmG hf (fun m22 hf => ?_)
  refine g_lv [] rfl ?_
  exact wX9_nextToken_b394 E z  m22 hf
theorem wX9_nextToken_b38 (E : pEv) (z : Int32 × pMem) (m : pMem) (hf : sX9_nextToken_b38  m = some z) : gM E kX9_nextToken z 38 [(0, .ref (eA E 9))] [] m := by
  unfold sX9_nextToken_b38 at hf
  refine g_aload_n (q := 0) dX9_nextToken_38 rfl rfl ?_
  refine g_aload_n (q := 0) dX9_nextToken_39 rfl rfl ?_
  refine g_get dX9_nextToken_40 fX9_207 (obX9 E m) (gvX9_17 E m) ?_
  refine g_put dX9_nextToken_43 fX9_210 fwX9_18 rfl rfl (obX9 E m) (Nat.le_of_ble_eq_true rfl) (psX9_18 E m _) ?_
  refine nmG hf (fun m5 hf => ?_)
  refine g_aload_n (q := 0) dX9_nextToken_46 rfl rfl ?_
  refine g_iconst (v := 0) dX9_nextToken_47 kI_0 ?_
  refine g_put dX9_nextToken_48 fX9_213 fwX9_20 rfl rfl (obX9 E m5) (Nat.le_of_ble_eq_true rfl) (psX9_20 E m5 _) ?_
  refine nmG hf (fun m6 hf => ?_)
  refine g_aload_n (q := 0) dX9_nextToken_51 rfl rfl ?_
  refine g_iconst (v := 0) dX9_nextToken_52 kI_0 ?_
  refine g_put dX9_nextToken_53 fX9_216 fwX9_21 rfl rfl (obX9 E m6) (Nat.le_of_ble_eq_true rfl) (psX9_21 E m6 _) ?_
  refine nmG hf (fun m7 hf => ?_)
  refine g_aload_n (q := 0) dX9_nextToken_56 rfl rfl ?_
  refine g_get dX9_nextToken_57 fX9_207 (obX9 E m7) (gvX9_17 E m7) ?_
  refine g_aload_n (q := 0) dX9_nextToken_60 rfl rfl ?_
  refine g_get dX9_nextToken_61 fX9_202 (obX9 E m7) (gvX9_15 E m7) ?_
  refine g_icmp_ne (tgt := 77) dX9_nextToken_64 (by decide) (fun c8 => ?_) (fun c8 => ?_)
  · have hf := it_ hf c8
    refine g_aload_n (q := 0) dX9_nextToken_77 rfl rfl ?_
    refine g_get dX9_nextToken_78 fX9_50 (obX9 E m7) (gvX9_16 E m7) ?_
    refine g_aload_n (q := 0) dX9_nextToken_81 rfl rfl ?_
    refine g_get dX9_nextToken_82 fX9_207 (obX9 E m7) (gvX9_17 E m7) ?_
    obtain ⟨h9, hf⟩ := gd_ hf
    refine g_iald dX9_nextToken_85 ar_76 h9 ?_
    refine g_bipush (v := 97) dX9_nextToken_86 kB_97 ?_
    refine g_bipush (v := 122) dX9_nextToken_88 kB_122 ?_
    obtain ⟨r10, q11, hf⟩ := cbR_ hf
    refine g_cS (As := [.int (m7.1 76 ((m7.1 9 17).toNatClampNeg)), .int 97, .int 122]) dX9_nextToken_90 (tX9_in E m7 (m7.1 76 ((m7.1 9 17).toNatClampNeg)) 97 122 q11) gyX9_in giX9_in mX9_148 (⟨rfl, rfl, Nat.le_of_ble_eq_true rfl, Nat.le_of_ble_eq_true rfl, Nat.le_of_ble_eq_true rfl, Nat.le_of_ble_eq_true rfl⟩) rfl rfl rfl (Nat.le_of_ble_eq_true rfl) ?_
    refine g_if_eq (tgt := 222) dX9_nextToken_93 (by decide) (fun c12 => ?_) (fun c12 => ?_)
    · have hf := it_ hf c12
      refine g_aload_n (q := 0) dX9_nextToken_222 rfl rfl ?_
      refine g_get dX9_nextToken_223 fX9_50 (obX9 E m7) (gvX9_16 E m7) ?_
      refine g_aload_n (q := 0) dX9_nextToken_226 rfl rfl ?_
      refine g_get dX9_nextToken_227 fX9_207 (obX9 E m7) (gvX9_17 E m7) ?_
      obtain ⟨h13, hf⟩ := gd_ hf
      refine g_iald dX9_nextToken_230 ar_76 h13 ?_
      refine g_bipush (v := 48) dX9_nextToken_231 kB_48 ?_
      refine g_bipush (v := 57) dX9_nextToken_233 kB_57 ?_
      obtain ⟨r14, q15, hf⟩ := cbR_ hf
      refine g_cS (As := [.int (m7.1 76 ((m7.1 9 17).toNatClampNeg)), .int 48, .int 57]) dX9_nextToken_235 (tX9_in E m7 (m7.1 76 ((m7.1 9 17).toNatClampNeg)) 48 57 q15) gyX9_in giX9_in mX9_148 (⟨rfl, rfl, Nat.le_of_ble_eq_true rfl, Nat.le_of_ble_eq_true rfl, Nat.le_of_ble_eq_true rfl, Nat.le_of_ble_eq_true rfl⟩) rfl rfl rfl (Nat.le_of_ble_eq_true rfl) ?_
      refine g_if_eq (tgt := 357) dX9_nextToken_238 (by decide) (fun c16 => ?_) (fun c16 => ?_)
      · have hf := it_ hf c16
        refine g_aload_n (q := 0) dX9_nextToken_357 rfl rfl ?_
        refine g_aload_n (q := 0) dX9_nextToken_358 rfl rfl ?_
        refine g_get dX9_nextToken_359 fX9_50 (obX9 E m7) (gvX9_16 E m7) ?_
        refine g_aload_n (q := 0) dX9_nextToken_362 rfl rfl ?_
        refine g_get dX9_nextToken_363 fX9_207 (obX9 E m7) (gvX9_17 E m7) ?_
        obtain ⟨h17, hf⟩ := gd_ hf
        refine g_iald dX9_nextToken_366 ar_76 h17 ?_
        refine g_bipush (v := 59) dX9_nextToken_367 kB_59 ?_
        refine g_icmp_ne (tgt := 378) dX9_nextToken_369 (by decide) (fun c18 => ?_) (fun c18 => ?_)
        · have hf := it_ hf c18
          refine g_ldc2 dX9_nextToken_378 cX9_229 ?_
          exact wX9_nextToken_b381 E z  (-4) m7 hf
        · have hf := ie_ hf (not_not_intro c18)
          refine g_ldc2 dX9_nextToken_372 cX9_233 ?_
          refine g_goto (tgt := 381) dX9_nextToken_375 (by decide) ?_
          exact wX9_nextToken_b381 E z  (-3) m7 hf
      · have hf := ie_ hf c16
        exact wX9_nextToken_l241 E z  5000 m7 hf
    · have hf := ie_ hf c12
      refine g_aload_n (q := 0) dX9_nextToken_96 rfl rfl ?_
      refine g_lconst (v := 0) dX9_nextToken_97 kL_0 ?_
      refine g_put dX9_nextToken_98 fX9_221 fwX9_19 rfl rfl (obX9 E m7) (Nat.le_of_ble_eq_true rfl) (psX9_19 E m7 _) ?_
      refine nmG hf (fun m19 hf => ?_)
      exact wX9_nextToken_l101 E z  5000 m19 hf
  · have hf := ie_ hf (not_not_intro c8)
    refine g_aload_n (q := 0) dX9_nextToken_67 rfl rfl ?_
    refine g_ldc2 dX9_nextToken_68 cX9_219 ?_
    refine g_put dX9_nextToken_71 fX9_221 fwX9_19 rfl rfl (obX9 E m7) (Nat.le_of_ble_eq_true rfl) (psX9_19 E m7 _) ?_
    refine nmG hf (fun m20 hf => ?_)
    refine g_goto (tgt := 394) dX9_nextToken_74 (by decide) ?_
    refine g_lv [] rfl ?_
    exact wX9_nextToken_b394 E z  m20 hf
theorem wX9_nextToken_b0 (E : pEv) (z : Int32 × pMem) (k0 : pMem → gO) (ih0 : ∀  (m : pMem), k0  m = some z → gM E kX9_nextToken z 0 [(0, .ref (eA E 9))] [] m) (m : pMem) (hf : sX9_nextToken_b0 k0 m = some z) : gM E kX9_nextToken z 0 [(0, .ref (eA E 9))] [] m := by
  unfold sX9_nextToken_b0 at hf
  refine g_aload_n (q := 0) dX9_nextToken_0 rfl rfl ?_
  refine g_get dX9_nextToken_1 fX9_207 (obX9 E m) (gvX9_17 E m) ?_
  refine g_aload_n (q := 0) dX9_nextToken_4 rfl rfl ?_
  refine g_get dX9_nextToken_5 fX9_202 (obX9 E m) (gvX9_15 E m) ?_
  refine g_icmp_ge (tgt := 38) dX9_nextToken_8 (by decide) (fun c1 => ?_) (fun c1 => ?_)
  · have hf := it_ hf c1
    exact wX9_nextToken_b38 E z  m hf
  · have hf := ie_ hf c1
    refine g_aload_n (q := 0) dX9_nextToken_11 rfl rfl ?_
    refine g_get dX9_nextToken_12 fX9_50 (obX9 E m) (gvX9_16 E m) ?_
    refine g_aload_n (q := 0) dX9_nextToken_15 rfl rfl ?_
    refine g_get dX9_nextToken_16 fX9_207 (obX9 E m) (gvX9_17 E m) ?_
    obtain ⟨h2, hf⟩ := gd_ hf
    refine g_iald dX9_nextToken_19 ar_76 h2 ?_
    refine g_bipush (v := 32) dX9_nextToken_20 kB_32 ?_
    refine g_icmp_ne (tgt := 38) dX9_nextToken_22 (by decide) (fun c3 => ?_) (fun c3 => ?_)
    · have hf := it_ hf c3
      exact wX9_nextToken_b38 E z  m hf
    · have hf := ie_ hf (not_not_intro c3)
      refine g_aload_n (q := 0) dX9_nextToken_25 rfl rfl ?_
      refine g_dup dX9_nextToken_26 rfl ?_
      refine g_get dX9_nextToken_27 fX9_207 (obX9 E m) (gvX9_17 E m) ?_
      refine g_iconst (v := 1) dX9_nextToken_30 kI_1 ?_
      refine g_iadd dX9_nextToken_31 ?_
      refine g_put dX9_nextToken_32 fX9_207 fwX9_17 rfl rfl (obX9 E m) (Nat.le_of_ble_eq_true rfl) (psX9_17 E m _) ?_
      refine nmG hf (fun m4 hf => ?_)
      refine g_goto (tgt := 0) dX9_nextToken_35 (by decide) ?_
      exact ih0 m4 hf
theorem wX9_nextToken_l0 (E : pEv) (z : Int32 × pMem) : ∀ (n : Nat) (m : pMem), sX9_nextToken_l0 n  m = some z → gM E kX9_nextToken z 0 [(0, .ref (eA E 9))] [] m := by
  intro n
  induction n with
  | zero => intro  m  hf; cases (show (none : Option _) = some z from hf)
  | succ n ih => intro  m  hf; exact wX9_nextToken_b0 E z  _  ih  m  hf
theorem wX9_nextToken_e (E : pEv) (z : Int32 × pMem) (m : pMem) (hf : sX9_nextToken  m = some z) : gM E kX9_nextToken z 0 [(0, .ref (eA E 9))] [] m := by
  unfold sX9_nextToken at hf
  refine g_lv [0] rfl ?_
  exact wX9_nextToken_l0 E z 5000 m hf
theorem tX9_nextToken (E : pEv) (m : pMem) {z : Int32 × pMem} (hf : sX9_nextToken  m = some z) : gCn E yX9_nextToken kX9_nextToken [.ref (eA E 9)] m z := gCn_of (by decide +kernel) rfl rfl rfl (Nat.le_of_ble_eq_true rfl) rfl (wX9_nextToken_e E z  m  hf)
theorem wX9_isOf_b74 (E : pEv) (z : Int32 × pMem) (t0 : Int32) (m : pMem) (hf : sX9_isOf_b74 t0 m = some z) : gM E kX9_isOf z 74 [] [.int t0] m := by
  unfold sX9_isOf_b74 at hf
  exact g_retz dX9_isOf_74 rfl (Option.some.inj hf).symm
theorem wX9_isOf_b69 (E : pEv) (z : Int32 × pMem) (m : pMem) (hf : sX9_isOf_b69  m = some z) : gM E kX9_isOf z 69 [] [] m := by
  unfold sX9_isOf_b69 at hf
  refine g_iconst (v := 1) dX9_isOf_69 kI_1 ?_
  refine g_goto (tgt := 74) dX9_isOf_70 (by decide) ?_
  exact wX9_isOf_b74 E z  1 m hf
theorem wX9_isOf_b51 (E : pEv) (z : Int32 × pMem) (l1 : Int32) (t0 : Int32) (t1 : Int32) (m : pMem) (hf : sX9_isOf_b51 l1 t0 t1 m = some z) : gM E kX9_isOf z 51 [(0, .ref (eA E 9)), (1, .int l1)] [.int t0, .int t1, .ref (eA E 77)] m := by
  unfold sX9_isOf_b51 at hf
  obtain ⟨h7, hf⟩ := gd_ hf
  refine g_iast dX9_isOf_51 ar_77 h7 ?_
  refine nmG hf (fun m8 hf => ?_)
  refine g_aload_n (q := 0) dX9_isOf_52 rfl rfl ?_
  refine g_get dX9_isOf_53 fX9_53 (obX9 E m8) (gvX9_24 E m8) ?_
  refine g_iload_n (q := 1) dX9_isOf_56 rfl rfl ?_
  obtain ⟨h9, hf⟩ := gd_ hf
  refine g_iald dX9_isOf_57 ar_77 h9 ?_
  refine g_iconst (v := (-1)) dX9_isOf_58 kI_m1 ?_
  refine g_icmp_ne (tgt := 69) dX9_isOf_59 (by decide) (fun c10 => ?_) (fun c10 => ?_)
  · have hf := it_ hf c10
    refine g_lv [] rfl ?_
    exact wX9_isOf_b69 E z  m8 hf
  · have hf := ie_ hf (not_not_intro c10)
    refine g_aload_n (q := 0) dX9_isOf_62 rfl rfl ?_
    obtain ⟨r11, m13, q12, hf⟩ := cbE_ hf
    refine g_cV (As := []) dX9_isOf_63 (tX9_fails E m8 q12) gyX9_fails giX9_fails gsX9_fails mX9_241 (⟨rfl, rfl, Nat.le_of_ble_eq_true rfl, Nat.le_of_ble_eq_true rfl, Nat.le_of_ble_eq_true rfl, Nat.le_of_ble_eq_true rfl⟩) rfl (obX9 E m8) rfl rfl rfl (Nat.le_of_ble_eq_true rfl) ?_
    refine g_if_eq (tgt := 73) dX9_isOf_66 (by decide) (fun c14 => ?_) (fun c14 => ?_)
    · have hf := it_ hf c14
      refine g_iconst (v := 0) dX9_isOf_73 kI_0 ?_
      refine g_lv [] rfl ?_
      exact wX9_isOf_b74 E z  0 m13 hf
    · have hf := ie_ hf c14
      refine g_lv [] rfl ?_
      exact wX9_isOf_b69 E z  m13 hf
theorem wX9_isOf_b0 (E : pEv) (z : Int32 × pMem) (a1 : Int32) (a2 : Int64) (a3 : Int64) (a4 : Int64) (m : pMem) (hf : sX9_isOf a1 a2 a3 a4 m = some z) : gM E kX9_isOf z 0 [(0, .ref (eA E 9)), (1, .int a1), (2, .long a2), (4, .long a3), (6, .long a4)] [] m := by
  unfold sX9_isOf at hf
  refine g_aload_n (q := 0) dX9_isOf_0 rfl rfl ?_
  obtain ⟨r1, m3, q2, hf⟩ := cbE_ hf
  refine g_cVv (As := []) dX9_isOf_1 (tX9_nextToken E m q2) gyX9_nextToken giX9_nextToken gsX9_nextToken mX9_238 (⟨rfl, rfl, Nat.le_of_ble_eq_true rfl, Nat.le_of_ble_eq_true rfl, Nat.le_of_ble_eq_true rfl, Nat.le_of_ble_eq_true rfl⟩) rfl (obX9 E m) rfl rfl rfl (Nat.le_of_ble_eq_true rfl) ?_
  refine g_aload_n (q := 0) dX9_isOf_4 rfl rfl ?_
  refine g_get dX9_isOf_5 fX9_53 (obX9 E m3) (gvX9_24 E m3) ?_
  refine g_iload_n (q := 1) dX9_isOf_8 rfl rfl ?_
  refine g_aload_n (q := 0) dX9_isOf_9 rfl rfl ?_
  refine g_get dX9_isOf_10 fX9_221 (obX9 E m3) (gvX9_19 E m3) ?_
  refine g_lload_n (q := 2) dX9_isOf_13 rfl rfl ?_
  refine g_lcmp dX9_isOf_14 ?_
  refine g_if_ne (tgt := 22) dX9_isOf_15 (by decide) (fun c4 => ?_) (fun c4 => ?_)
  · have hf := it_ hf c4
    refine g_aload_n (q := 0) dX9_isOf_22 rfl rfl ?_
    refine g_get dX9_isOf_23 fX9_221 (obX9 E m3) (gvX9_19 E m3) ?_
    refine g_lload (q := 3) dX9_isOf_26 rfl ?_
    refine g_lcmp dX9_isOf_28 ?_
    refine g_if_ne (tgt := 36) dX9_isOf_29 (by decide) (fun c5 => ?_) (fun c5 => ?_)
    · have hf := it_ hf c5
      refine g_aload_n (q := 0) dX9_isOf_36 rfl rfl ?_
      refine g_get dX9_isOf_37 fX9_221 (obX9 E m3) (gvX9_19 E m3) ?_
      refine g_lload (q := 4) dX9_isOf_40 rfl ?_
      refine g_lcmp dX9_isOf_42 ?_
      refine g_if_ne (tgt := 50) dX9_isOf_43 (by decide) (fun c6 => ?_) (fun c6 => ?_)
      · have hf := it_ hf c6
        refine g_iconst (v := (-1)) dX9_isOf_50 kI_m1 ?_
        refine g_lv [0, 1] rfl ?_
        exact wX9_isOf_b51 E z  a1 (-1) a1 m3 hf
      · have hf := ie_ hf (not_not_intro c6)
        refine g_iconst (v := 2) dX9_isOf_46 kI_2 ?_
        refine g_goto (tgt := 51) dX9_isOf_47 (by decide) ?_
        refine g_lv [0, 1] rfl ?_
        exact wX9_isOf_b51 E z  a1 2 a1 m3 hf
    · have hf := ie_ hf (not_not_intro c5)
      refine g_iconst (v := 1) dX9_isOf_32 kI_1 ?_
      refine g_goto (tgt := 51) dX9_isOf_33 (by decide) ?_
      refine g_lv [0, 1] rfl ?_
      exact wX9_isOf_b51 E z  a1 1 a1 m3 hf
  · have hf := ie_ hf (not_not_intro c4)
    refine g_iconst (v := 0) dX9_isOf_18 kI_0 ?_
    refine g_goto (tgt := 51) dX9_isOf_19 (by decide) ?_
    refine g_lv [0, 1] rfl ?_
    exact wX9_isOf_b51 E z  a1 0 a1 m3 hf
theorem tX9_isOf (E : pEv) (m : pMem) (a1 : Int32) (a2 : Int64) (a3 : Int64) (a4 : Int64) {z : Int32 × pMem} (hf : sX9_isOf a1 a2 a3 a4 m = some z) : gCn E yX9_isOf kX9_isOf [.ref (eA E 9), .int a1, .long a2, .long a3, .long a4] m z := gCn_of (by decide +kernel) rfl rfl rfl (Nat.le_of_ble_eq_true rfl) rfl (wX9_isOf_b0 E z a1 a2 a3 a4 m  hf)
theorem wX9_isLine_b124 (E : pEv) (z : Int32 × pMem) (t0 : Int32) (m : pMem) (hf : sX9_isLine_b124 t0 m = some z) : gM E kX9_isLine z 124 [] [.int t0] m := by
  unfold sX9_isLine_b124 at hf
  exact g_retz dX9_isLine_124 rfl (Option.some.inj hf).symm
theorem wX9_isLine_b47 (E : pEv) (z : Int32 × pMem) (t0 : Int32) (t1 : Int32) (m : pMem) (hf : sX9_isLine_b47 t0 t1 m = some z) : gM E kX9_isLine z 47 [] [.int t0, .int t1, .ref (eA E 77)] m := by
  unfold sX9_isLine_b47 at hf
  obtain ⟨h32, hf⟩ := gd_ hf
  refine g_iast dX9_isLine_47 ar_77 h32 ?_
  refine nmG hf (fun m33 hf => ?_)
  refine g_iconst (v := 1) dX9_isLine_48 kI_1 ?_
  exact g_ret dX9_isLine_49 rfl kz_1 (Option.some.inj hf).symm
theorem wX9_isLine_b26 (E : pEv) (z : Int32 × pMem) (m : pMem) (hf : sX9_isLine_b26  m = some z) : gM E kX9_isLine z 26 [(0, .ref (eA E 9))] [] m := by
  unfold sX9_isLine_b26 at hf
  refine g_aload_n (q := 0) dX9_isLine_26 rfl rfl ?_
  refine g_get dX9_isLine_27 fX9_53 (obX9 E m) (gvX9_24 E m) ?_
  refine g_iconst (v := 0) dX9_isLine_30 kI_0 ?_
  refine g_aload_n (q := 0) dX9_isLine_31 rfl rfl ?_
  refine g_get dX9_isLine_32 fX9_221 (obX9 E m) (gvX9_19 E m) ?_
  refine g_ldc2 dX9_isLine_35 cX9_245 ?_
  refine g_lcmp dX9_isLine_38 ?_
  refine g_if_ne (tgt := 46) dX9_isLine_39 (by decide) (fun c31 => ?_) (fun c31 => ?_)
  · have hf := it_ hf c31
    refine g_iconst (v := 1) dX9_isLine_46 kI_1 ?_
    refine g_lv [] rfl ?_
    exact wX9_isLine_b47 E z  1 0 m hf
  · have hf := ie_ hf (not_not_intro c31)
    refine g_iconst (v := 0) dX9_isLine_42 kI_0 ?_
    refine g_goto (tgt := 47) dX9_isLine_43 (by decide) ?_
    refine g_lv [] rfl ?_
    exact wX9_isLine_b47 E z  0 0 m hf
theorem wX9_isLine_b119 (E : pEv) (z : Int32 × pMem) (m : pMem) (hf : sX9_isLine_b119  m = some z) : gM E kX9_isLine z 119 [] [] m := by
  unfold sX9_isLine_b119 at hf
  refine g_iconst (v := 1) dX9_isLine_119 kI_1 ?_
  refine g_goto (tgt := 124) dX9_isLine_120 (by decide) ?_
  exact wX9_isLine_b124 E z  1 m hf
theorem wX9_isLine_b183 (E : pEv) (z : Int32 × pMem) (t0 : Int32) (m : pMem) (hf : sX9_isLine_b183 t0 m = some z) : gM E kX9_isLine z 183 [] [.int t0] m := by
  unfold sX9_isLine_b183 at hf
  exact g_retz dX9_isLine_183 rfl (Option.some.inj hf).symm
theorem wX9_isLine_b0 (E : pEv) (z : Int32 × pMem) (m : pMem) (hf : sX9_isLine  m = some z) : gM E kX9_isLine z 0 [(0, .ref (eA E 9))] [] m := by
  unfold sX9_isLine at hf
  refine g_aload_n (q := 0) dX9_isLine_0 rfl rfl ?_
  obtain ⟨r1, m3, q2, hf⟩ := cbE_ hf
  refine g_cVv (As := []) dX9_isLine_1 (tX9_nextToken E m q2) gyX9_nextToken giX9_nextToken gsX9_nextToken mX9_238 (⟨rfl, rfl, Nat.le_of_ble_eq_true rfl, Nat.le_of_ble_eq_true rfl, Nat.le_of_ble_eq_true rfl, Nat.le_of_ble_eq_true rfl⟩) rfl (obX9 E m) rfl rfl rfl (Nat.le_of_ble_eq_true rfl) ?_
  refine g_aload_n (q := 0) dX9_isLine_4 rfl rfl ?_
  refine g_get dX9_isLine_5 fX9_221 (obX9 E m3) (gvX9_19 E m3) ?_
  refine g_ldc2 dX9_isLine_8 cX9_245 ?_
  refine g_lcmp dX9_isLine_11 ?_
  refine g_if_eq (tgt := 26) dX9_isLine_12 (by decide) (fun c4 => ?_) (fun c4 => ?_)
  · have hf := it_ hf c4
    exact wX9_isLine_b26 E z  m3 hf
  · have hf := ie_ hf c4
    refine g_aload_n (q := 0) dX9_isLine_15 rfl rfl ?_
    refine g_get dX9_isLine_16 fX9_221 (obX9 E m3) (gvX9_19 E m3) ?_
    refine g_ldc2 dX9_isLine_19 cX9_247 ?_
    refine g_lcmp dX9_isLine_22 ?_
    refine g_if_ne (tgt := 50) dX9_isLine_23 (by decide) (fun c5 => ?_) (fun c5 => ?_)
    · have hf := it_ hf c5
      refine g_aload_n (q := 0) dX9_isLine_50 rfl rfl ?_
      refine g_get dX9_isLine_51 fX9_221 (obX9 E m3) (gvX9_19 E m3) ?_
      refine g_ldc2 dX9_isLine_54 cX9_249 ?_
      refine g_lcmp dX9_isLine_57 ?_
      refine g_if_ne (tgt := 76) dX9_isLine_58 (by decide) (fun c6 => ?_) (fun c6 => ?_)
      · have hf := it_ hf c6
        refine g_aload_n (q := 0) dX9_isLine_76 rfl rfl ?_
        refine g_get dX9_isLine_77 fX9_221 (obX9 E m3) (gvX9_19 E m3) ?_
        refine g_ldc2 dX9_isLine_80 cX9_259 ?_
        refine g_lcmp dX9_isLine_83 ?_
        refine g_if_ne (tgt := 125) dX9_isLine_84 (by decide) (fun c7 => ?_) (fun c7 => ?_)
        · have hf := it_ hf c7
          refine g_aload_n (q := 0) dX9_isLine_125 rfl rfl ?_
          refine g_get dX9_isLine_126 fX9_221 (obX9 E m3) (gvX9_19 E m3) ?_
          refine g_ldc2 dX9_isLine_129 cX9_261 ?_
          refine g_lcmp dX9_isLine_132 ?_
          refine g_if_ne (tgt := 151) dX9_isLine_133 (by decide) (fun c8 => ?_) (fun c8 => ?_)
          · have hf := it_ hf c8
            refine g_aload_n (q := 0) dX9_isLine_151 rfl rfl ?_
            refine g_get dX9_isLine_152 fX9_221 (obX9 E m3) (gvX9_19 E m3) ?_
            refine g_ldc2 dX9_isLine_155 cX9_269 ?_
            refine g_lcmp dX9_isLine_158 ?_
            refine g_if_ne (tgt := 179) dX9_isLine_159 (by decide) (fun c9 => ?_) (fun c9 => ?_)
            · have hf := it_ hf c9
              refine g_aload_n (q := 0) dX9_isLine_179 rfl rfl ?_
              obtain ⟨r10, m12, q11, hf⟩ := cbE_ hf
              refine g_cV (As := []) dX9_isLine_180 (tX9_fails E m3 q11) gyX9_fails giX9_fails gsX9_fails mX9_241 (⟨rfl, rfl, Nat.le_of_ble_eq_true rfl, Nat.le_of_ble_eq_true rfl, Nat.le_of_ble_eq_true rfl, Nat.le_of_ble_eq_true rfl⟩) rfl (obX9 E m3) rfl rfl rfl (Nat.le_of_ble_eq_true rfl) ?_
              refine g_lv [] rfl ?_
              exact wX9_isLine_b183 E z  r10 m12 hf
            · have hf := ie_ hf (not_not_intro c9)
              refine g_aload_n (q := 0) dX9_isLine_162 rfl rfl ?_
              refine g_iconst (v := 4) dX9_isLine_163 kI_4 ?_
              refine g_ldc2 dX9_isLine_164 cX9_271 ?_
              refine g_ldc2 dX9_isLine_167 cX9_273 ?_
              refine g_ldc2 dX9_isLine_170 cX9_275 ?_
              obtain ⟨r13, m15, q14, hf⟩ := cbE_ hf
              refine g_cV (As := [.int 4, .long 275656909, .long 6570631, .long 50801]) dX9_isLine_173 (tX9_isOf E m3 4 275656909 6570631 50801 q14) gyX9_isOf giX9_isOf gsX9_isOf mX9_255 (⟨rfl, rfl, Nat.le_of_ble_eq_true rfl, Nat.le_of_ble_eq_true rfl, Nat.le_of_ble_eq_true rfl, Nat.le_of_ble_eq_true rfl⟩) rfl (obX9 E m3) rfl rfl rfl (Nat.le_of_ble_eq_true rfl) ?_
              refine g_goto (tgt := 183) dX9_isLine_176 (by decide) ?_
              refine g_lv [] rfl ?_
              exact wX9_isLine_b183 E z  r13 m15 hf
          · have hf := ie_ hf (not_not_intro c8)
            refine g_aload_n (q := 0) dX9_isLine_136 rfl rfl ?_
            refine g_iconst (v := 3) dX9_isLine_137 kI_3 ?_
            refine g_ldc2 dX9_isLine_138 cX9_263 ?_
            refine g_ldc2 dX9_isLine_141 cX9_265 ?_
            refine g_ldc2 dX9_isLine_144 cX9_267 ?_
            obtain ⟨r16, m18, q17, hf⟩ := cbE_ hf
            refine g_cV (As := [.int 3, .long 4350799, .long 12532058, .long 3007164]) dX9_isLine_147 (tX9_isOf E m3 3 4350799 12532058 3007164 q17) gyX9_isOf giX9_isOf gsX9_isOf mX9_255 (⟨rfl, rfl, Nat.le_of_ble_eq_true rfl, Nat.le_of_ble_eq_true rfl, Nat.le_of_ble_eq_true rfl, Nat.le_of_ble_eq_true rfl⟩) rfl (obX9 E m3) rfl rfl rfl (Nat.le_of_ble_eq_true rfl) ?_
            exact g_retz dX9_isLine_150 rfl (Option.some.inj hf).symm
        · have hf := ie_ hf (not_not_intro c7)
          refine g_aload_n (q := 0) dX9_isLine_87 rfl rfl ?_
          obtain ⟨r19, m21, q20, hf⟩ := cbE_ hf
          refine g_cVv (As := []) dX9_isLine_88 (tX9_nextToken E m3 q20) gyX9_nextToken giX9_nextToken gsX9_nextToken mX9_238 (⟨rfl, rfl, Nat.le_of_ble_eq_true rfl, Nat.le_of_ble_eq_true rfl, Nat.le_of_ble_eq_true rfl, Nat.le_of_ble_eq_true rfl⟩) rfl (obX9 E m3) rfl rfl rfl (Nat.le_of_ble_eq_true rfl) ?_
          refine g_aload_n (q := 0) dX9_isLine_91 rfl rfl ?_
          refine g_get dX9_isLine_92 fX9_53 (obX9 E m21) (gvX9_24 E m21) ?_
          refine g_iconst (v := 2) dX9_isLine_95 kI_2 ?_
          refine g_aload_n (q := 0) dX9_isLine_96 rfl rfl ?_
          refine g_get dX9_isLine_97 fX9_216 (obX9 E m21) (gvX9_21 E m21) ?_
          refine g_iast dX9_isLine_100 ar_77 (by decide) ?_
          refine nmG hf (fun m22 hf => ?_)
          refine g_aload_n (q := 0) dX9_isLine_101 rfl rfl ?_
          refine g_get dX9_isLine_102 fX9_221 (obX9 E m22) (gvX9_19 E m22) ?_
          refine g_ldc2 dX9_isLine_105 cX9_231 ?_
          refine g_lcmp dX9_isLine_108 ?_
          refine g_if_eq (tgt := 119) dX9_isLine_109 (by decide) (fun c23 => ?_) (fun c23 => ?_)
          · have hf := it_ hf c23
            refine g_lv [] rfl ?_
            exact wX9_isLine_b119 E z  m22 hf
          · have hf := ie_ hf c23
            refine g_aload_n (q := 0) dX9_isLine_112 rfl rfl ?_
            obtain ⟨r24, m26, q25, hf⟩ := cbE_ hf
            refine g_cV (As := []) dX9_isLine_113 (tX9_fails E m22 q25) gyX9_fails giX9_fails gsX9_fails mX9_241 (⟨rfl, rfl, Nat.le_of_ble_eq_true rfl, Nat.le_of_ble_eq_true rfl, Nat.le_of_ble_eq_true rfl, Nat.le_of_ble_eq_true rfl⟩) rfl (obX9 E m22) rfl rfl rfl (Nat.le_of_ble_eq_true rfl) ?_
            refine g_if_eq (tgt := 123) dX9_isLine_116 (by decide) (fun c27 => ?_) (fun c27 => ?_)
            · have hf := it_ hf c27
              refine g_iconst (v := 0) dX9_isLine_123 kI_0 ?_
              refine g_lv [] rfl ?_
              exact wX9_isLine_b124 E z  0 m26 hf
            · have hf := ie_ hf c27
              refine g_lv [] rfl ?_
              exact wX9_isLine_b119 E z  m26 hf
      · have hf := ie_ hf (not_not_intro c6)
        refine g_aload_n (q := 0) dX9_isLine_61 rfl rfl ?_
        refine g_iconst (v := 1) dX9_isLine_62 kI_1 ?_
        refine g_ldc2 dX9_isLine_63 cX9_251 ?_
        refine g_ldc2 dX9_isLine_66 cX9_253 ?_
        refine g_ldc2 dX9_isLine_69 cX9_253 ?_
        obtain ⟨r28, m30, q29, hf⟩ := cbE_ hf
        refine g_cV (As := [.int 1, .long 393, .long 18379, .long 18379]) dX9_isLine_72 (tX9_isOf E m3 1 393 18379 18379 q29) gyX9_isOf giX9_isOf gsX9_isOf mX9_255 (⟨rfl, rfl, Nat.le_of_ble_eq_true rfl, Nat.le_of_ble_eq_true rfl, Nat.le_of_ble_eq_true rfl, Nat.le_of_ble_eq_true rfl⟩) rfl (obX9 E m3) rfl rfl rfl (Nat.le_of_ble_eq_true rfl) ?_
        exact g_retz dX9_isLine_75 rfl (Option.some.inj hf).symm
    · have hf := ie_ hf (not_not_intro c5)
      exact wX9_isLine_b26 E z  m3 hf
theorem tX9_isLine (E : pEv) (m : pMem) {z : Int32 × pMem} (hf : sX9_isLine  m = some z) : gCn E yX9_isLine kX9_isLine [.ref (eA E 9)] m z := gCn_of (by decide +kernel) rfl rfl rfl (Nat.le_of_ble_eq_true rfl) rfl (wX9_isLine_b0 E z  m  hf)
theorem wX9_isRead_b98 (E : pEv) (z : Int32 × pMem) (t0 : Int32) (m : pMem) (hf : sX9_isRead_b98 t0 m = some z) : gM E kX9_isRead z 98 [] [.int t0] m := by
  unfold sX9_isRead_b98 at hf
  exact g_retz dX9_isRead_98 rfl (Option.some.inj hf).symm
theorem wX9_isRead_b93 (E : pEv) (z : Int32 × pMem) (m : pMem) (hf : sX9_isRead_b93  m = some z) : gM E kX9_isRead z 93 [] [] m := by
  unfold sX9_isRead_b93 at hf
  refine g_iconst (v := 1) dX9_isRead_93 kI_1 ?_
  refine g_goto (tgt := 98) dX9_isRead_94 (by decide) ?_
  exact wX9_isRead_b98 E z  1 m hf
theorem wX9_isRead_b71 (E : pEv) (z : Int32 × pMem) (k19 : Int32 → pMem → gO) (ih19 : ∀ (l1 : Int32)  (m : pMem), k19 l1 m = some z → gM E kX9_isRead z 19 [(0, .ref (eA E 9)), (1, .int l1)] [] m) (t0 : Int32) (m : pMem) (hf : sX9_isRead_b71 k19 t0 m = some z) : gM E kX9_isRead z 71 [(0, .ref (eA E 9))] [.int t0] m := by
  unfold sX9_isRead_b71 at hf
  refine g_istore_n dX9_isRead_71 rfl (Nat.le_of_ble_eq_true rfl) rfl ?_
  refine g_goto (tgt := 19) dX9_isRead_72 (by decide) ?_
  refine g_lv [1, 0] rfl ?_
  exact ih19 t0 m hf
theorem wX9_isRead_b70 (E : pEv) (z : Int32 × pMem) (k19 : Int32 → pMem → gO) (ih19 : ∀ (l1 : Int32)  (m : pMem), k19 l1 m = some z → gM E kX9_isRead z 19 [(0, .ref (eA E 9)), (1, .int l1)] [] m) (m : pMem) (hf : sX9_isRead_b70 k19 m = some z) : gM E kX9_isRead z 70 [(0, .ref (eA E 9))] [] m := by
  unfold sX9_isRead_b70 at hf
  refine g_iconst (v := 0) dX9_isRead_70 kI_0 ?_
  exact wX9_isRead_b71 E z k19 ih19 0 m hf
theorem wX9_isRead_b19 (E : pEv) (z : Int32 × pMem) (k19 : Int32 → pMem → gO) (ih19 : ∀ (l1 : Int32)  (m : pMem), k19 l1 m = some z → gM E kX9_isRead z 19 [(0, .ref (eA E 9)), (1, .int l1)] [] m) (l1 : Int32) (m : pMem) (hf : sX9_isRead_b19 k19 l1 m = some z) : gM E kX9_isRead z 19 [(0, .ref (eA E 9)), (1, .int l1)] [] m := by
  unfold sX9_isRead_b19 at hf
  refine g_iload_n (q := 1) dX9_isRead_19 rfl rfl ?_
  refine g_if_eq (tgt := 75) dX9_isRead_20 (by decide) (fun c6 => ?_) (fun c6 => ?_)
  · have hf := it_ hf c6
    refine g_aload_n (q := 0) dX9_isRead_75 rfl rfl ?_
    refine g_get dX9_isRead_76 fX9_221 (obX9 E m) (gvX9_19 E m) ?_
    refine g_ldc2 dX9_isRead_79 cX9_219 ?_
    refine g_lcmp dX9_isRead_82 ?_
    refine g_if_eq (tgt := 93) dX9_isRead_83 (by decide) (fun c7 => ?_) (fun c7 => ?_)
    · have hf := it_ hf c7
      refine g_lv [] rfl ?_
      exact wX9_isRead_b93 E z  m hf
    · have hf := ie_ hf c7
      refine g_aload_n (q := 0) dX9_isRead_86 rfl rfl ?_
      obtain ⟨r8, m10, q9, hf⟩ := cbE_ hf
      refine g_cV (As := []) dX9_isRead_87 (tX9_fails E m q9) gyX9_fails giX9_fails gsX9_fails mX9_241 (⟨rfl, rfl, Nat.le_of_ble_eq_true rfl, Nat.le_of_ble_eq_true rfl, Nat.le_of_ble_eq_true rfl, Nat.le_of_ble_eq_true rfl⟩) rfl (obX9 E m) rfl rfl rfl (Nat.le_of_ble_eq_true rfl) ?_
      refine g_if_eq (tgt := 97) dX9_isRead_90 (by decide) (fun c11 => ?_) (fun c11 => ?_)
      · have hf := it_ hf c11
        refine g_iconst (v := 0) dX9_isRead_97 kI_0 ?_
        refine g_lv [] rfl ?_
        exact wX9_isRead_b98 E z  0 m10 hf
      · have hf := ie_ hf c11
        refine g_lv [] rfl ?_
        exact wX9_isRead_b93 E z  m10 hf
  · have hf := ie_ hf c6
    refine g_aload_n (q := 0) dX9_isRead_23 rfl rfl ?_
    obtain ⟨r12, m14, q13, hf⟩ := cbE_ hf
    refine g_cV (As := []) dX9_isRead_24 (tX9_isLine E m q13) gyX9_isLine giX9_isLine gsX9_isLine mX9_280 (⟨rfl, rfl, Nat.le_of_ble_eq_true rfl, Nat.le_of_ble_eq_true rfl, Nat.le_of_ble_eq_true rfl, Nat.le_of_ble_eq_true rfl⟩) rfl (obX9 E m) rfl rfl rfl (Nat.le_of_ble_eq_true rfl) ?_
    refine g_if_ne (tgt := 32) dX9_isRead_27 (by decide) (fun c15 => ?_) (fun c15 => ?_)
    · have hf := it_ hf c15
      refine g_aload_n (q := 0) dX9_isRead_32 rfl rfl ?_
      refine g_dup dX9_isRead_33 rfl ?_
      refine g_get dX9_isRead_34 fX9_277 (obX9 E m14) (gvX9_23 E m14) ?_
      refine g_iconst (v := 1) dX9_isRead_37 kI_1 ?_
      refine g_iadd dX9_isRead_38 ?_
      refine g_put dX9_isRead_39 fX9_277 fwX9_23 rfl rfl (obX9 E m14) (Nat.le_of_ble_eq_true rfl) (psX9_23 E m14 _) ?_
      refine nmG hf (fun m16 hf => ?_)
      refine g_aload_n (q := 0) dX9_isRead_42 rfl rfl ?_
      obtain ⟨r17, m19, q18, hf⟩ := cbE_ hf
      refine g_cVv (As := []) dX9_isRead_43 (tX9_nextToken E m16 q18) gyX9_nextToken giX9_nextToken gsX9_nextToken mX9_238 (⟨rfl, rfl, Nat.le_of_ble_eq_true rfl, Nat.le_of_ble_eq_true rfl, Nat.le_of_ble_eq_true rfl, Nat.le_of_ble_eq_true rfl⟩) rfl (obX9 E m16) rfl rfl rfl (Nat.le_of_ble_eq_true rfl) ?_
      refine g_aload_n (q := 0) dX9_isRead_46 rfl rfl ?_
      refine g_get dX9_isRead_47 fX9_221 (obX9 E m19) (gvX9_19 E m19) ?_
      refine g_ldc2 dX9_isRead_50 cX9_233 ?_
      refine g_lcmp dX9_isRead_53 ?_
      refine g_if_ne (tgt := 70) dX9_isRead_54 (by decide) (fun c20 => ?_) (fun c20 => ?_)
      · have hf := it_ hf c20
        refine g_lv [0] rfl ?_
        exact wX9_isRead_b70 E z k19 ih19 m19 hf
      · have hf := ie_ hf (not_not_intro c20)
        refine g_aload_n (q := 0) dX9_isRead_57 rfl rfl ?_
        refine g_get dX9_isRead_58 fX9_277 (obX9 E m19) (gvX9_23 E m19) ?_
        refine g_bipush (v := 8) dX9_isRead_61 kB_8 ?_
        refine g_icmp_ge (tgt := 70) dX9_isRead_63 (by decide) (fun c21 => ?_) (fun c21 => ?_)
        · have hf := it_ hf c21
          refine g_lv [0] rfl ?_
          exact wX9_isRead_b70 E z k19 ih19 m19 hf
        · have hf := ie_ hf c21
          refine g_iconst (v := 1) dX9_isRead_66 kI_1 ?_
          refine g_goto (tgt := 71) dX9_isRead_67 (by decide) ?_
          refine g_lv [0] rfl ?_
          exact wX9_isRead_b71 E z k19 ih19 1 m19 hf
    · have hf := ie_ hf (not_not_intro c15)
      refine g_iconst (v := 0) dX9_isRead_30 kI_0 ?_
      exact g_ret dX9_isRead_31 rfl kz_0 (Option.some.inj hf).symm
theorem wX9_isRead_l19 (E : pEv) (z : Int32 × pMem) : ∀ (n : Nat) (l1 : Int32) (m : pMem), sX9_isRead_l19 n l1 m = some z → gM E kX9_isRead z 19 [(0, .ref (eA E 9)), (1, .int l1)] [] m := by
  intro n
  induction n with
  | zero => intro l1 m  hf; cases (show (none : Option _) = some z from hf)
  | succ n ih => intro l1 m  hf; exact wX9_isRead_b19 E z  _  ih l1 m  hf
theorem wX9_isRead_b0 (E : pEv) (z : Int32 × pMem) (m : pMem) (hf : sX9_isRead  m = some z) : gM E kX9_isRead z 0 [(0, .ref (eA E 9))] [] m := by
  unfold sX9_isRead at hf
  refine g_aload_n (q := 0) dX9_isRead_0 rfl rfl ?_
  refine g_iconst (v := 0) dX9_isRead_1 kI_0 ?_
  refine g_put dX9_isRead_2 fX9_207 fwX9_17 rfl rfl (obX9 E m) (Nat.le_of_ble_eq_true rfl) (psX9_17 E m _) ?_
  refine nmG hf (fun m1 hf => ?_)
  refine g_aload_n (q := 0) dX9_isRead_5 rfl rfl ?_
  refine g_iconst (v := 0) dX9_isRead_6 kI_0 ?_
  refine g_put dX9_isRead_7 fX9_277 fwX9_23 rfl rfl (obX9 E m1) (Nat.le_of_ble_eq_true rfl) (psX9_23 E m1 _) ?_
  refine nmG hf (fun m2 hf => ?_)
  refine g_aload_n (q := 0) dX9_isRead_10 rfl rfl ?_
  refine g_get dX9_isRead_11 fX9_53 (obX9 E m2) (gvX9_24 E m2) ?_
  obtain ⟨r3, m5, q4, hf⟩ := cbE_ hf
  refine g_cSv (As := [.ref (eA E 77)]) dX9_isRead_14 (tX9_firstRules E m2 77 ar_77 q4) gyX9_firstRules giX9_firstRules mX9_141 (⟨rfl, rfl, Nat.le_of_ble_eq_true rfl, Nat.le_of_ble_eq_true rfl, Nat.le_of_ble_eq_true rfl, Nat.le_of_ble_eq_true rfl⟩) rfl rfl rfl (Nat.le_of_ble_eq_true rfl) ?_
  refine g_iconst (v := 1) dX9_isRead_17 kI_1 ?_
  refine g_istore_n dX9_isRead_18 rfl (Nat.le_of_ble_eq_true rfl) rfl ?_
  refine g_lv [1, 0] rfl ?_
  exact wX9_isRead_l19 E z  5000 1 m5 hf
theorem tX9_isRead (E : pEv) (m : pMem) {z : Int32 × pMem} (hf : sX9_isRead  m = some z) : gCn E yX9_isRead kX9_isRead [.ref (eA E 9)] m z := gCn_of (by decide +kernel) rfl rfl rfl (Nat.le_of_ble_eq_true rfl) rfl (wX9_isRead_b0 E z  m  hf)
theorem wX9_fault_b15 (E : pEv) (z : Int32 × pMem) (t0 : Int32) (m : pMem) (hf : sX9_fault_b15 t0 m = some z) : gM E kX9_fault z 15 [] [.int t0] m := by
  unfold sX9_fault_b15 at hf
  exact g_ret dX9_fault_15 rfl rfl (Option.some.inj hf).symm
theorem wX9_fault_b0 (E : pEv) (z : Int32 × pMem) (m : pMem) (hf : sX9_fault  m = some z) : gM E kX9_fault z 0 [(0, .ref (eA E 9))] [] m := by
  unfold sX9_fault at hf
  refine g_aload_n (q := 0) dX9_fault_0 rfl rfl ?_
  obtain ⟨r1, m3, q2, hf⟩ := cbE_ hf
  refine g_cV (As := []) dX9_fault_1 (tX9_isRead E m q2) gyX9_isRead giX9_isRead gsX9_isRead mX9_283 (⟨rfl, rfl, Nat.le_of_ble_eq_true rfl, Nat.le_of_ble_eq_true rfl, Nat.le_of_ble_eq_true rfl, Nat.le_of_ble_eq_true rfl⟩) rfl (obX9 E m) rfl rfl rfl (Nat.le_of_ble_eq_true rfl) ?_
  refine g_if_eq (tgt := 11) dX9_fault_4 (by decide) (fun c4 => ?_) (fun c4 => ?_)
  · have hf := it_ hf c4
    refine g_aload_n (q := 0) dX9_fault_11 rfl rfl ?_
    refine g_get dX9_fault_12 fX9_235 (obX9 E m3) (gvX9_22 E m3) ?_
    refine g_lv [] rfl ?_
    exact wX9_fault_b15 E z  (m3.1 9 22) m3 hf
  · have hf := ie_ hf c4
    refine g_iconst (v := (-1)) dX9_fault_7 kI_m1 ?_
    refine g_goto (tgt := 15) dX9_fault_8 (by decide) ?_
    refine g_lv [] rfl ?_
    exact wX9_fault_b15 E z  (-1) m3 hf
theorem tX9_fault (E : pEv) (m : pMem) {z : Int32 × pMem} (hf : sX9_fault  m = some z) : gCn E yX9_fault kX9_fault [.ref (eA E 9)] m z := gCn_of (by decide +kernel) rfl rfl rfl (Nat.le_of_ble_eq_true rfl) rfl (wX9_fault_b0 E z  m  hf)
theorem wX9_findBound_b2 (E : pEv) (z : Int32 × pMem) (k2 : Int32 → Int32 → pMem → gO) (ih2 : ∀ (l1 : Int32) (l2 : Int32)  (m : pMem), k2 l1 l2 m = some z → gM E kX9_findBound z 2 [(0, .ref (eA E 9)), (1, .int l1), (2, .int l2)] [] m) (l1 : Int32) (l2 : Int32) (m : pMem) (hf : sX9_findBound_b2 k2 l1 l2 m = some z) : gM E kX9_findBound z 2 [(0, .ref (eA E 9)), (1, .int l1), (2, .int l2)] [] m := by
  unfold sX9_findBound_b2 at hf
  refine g_iload_n (q := 2) dX9_findBound_2 rfl rfl ?_
  refine g_aload_n (q := 0) dX9_findBound_3 rfl rfl ?_
  refine g_get dX9_findBound_4 fX9_159 (obX9 E m) (gvX9_26 E m) ?_
  refine g_icmp_ge (tgt := 28) dX9_findBound_7 (by decide) (fun c1 => ?_) (fun c1 => ?_)
  · have hf := it_ hf c1
    exact g_retv dX9_findBound_28 rfl (by rw [← Option.some.inj hf])
  · have hf := ie_ hf c1
    refine g_aload_n (q := 0) dX9_findBound_10 rfl rfl ?_
    refine g_get dX9_findBound_11 fX9_105 (obX9 E m) (gvX9_45 E m) ?_
    refine g_iload_n (q := 2) dX9_findBound_14 rfl rfl ?_
    refine g_aload_n (q := 0) dX9_findBound_15 rfl rfl ?_
    refine g_iload_n (q := 2) dX9_findBound_16 rfl rfl ?_
    refine g_iload_n (q := 1) dX9_findBound_17 rfl rfl ?_
    obtain ⟨r2, m4, q3, hf⟩ := cbE_ hf
    refine g_cV (As := [.int l2, .int l1]) dX9_findBound_18 (tX9_boundOf E m l2 l1 q3) gyX9_boundOf giX9_boundOf gsX9_boundOf mX9_325 (⟨rfl, rfl, Nat.le_of_ble_eq_true rfl, Nat.le_of_ble_eq_true rfl, Nat.le_of_ble_eq_true rfl, Nat.le_of_ble_eq_true rfl⟩) rfl (obX9 E m) rfl rfl rfl (Nat.le_of_ble_eq_true rfl) ?_
    obtain ⟨h5, hf⟩ := gd_ hf
    refine g_iast dX9_findBound_21 ar_94 h5 ?_
    refine nmG hf (fun m6 hf => ?_)
    refine g_iinc (q := 2) (v := l2 + 1) dX9_findBound_22 rfl (by rw [kI_1]) (Nat.le_of_ble_eq_true rfl) rfl ?_
    refine g_goto (tgt := 2) dX9_findBound_25 (by decide) ?_
    refine g_lv [1, 2, 0] rfl ?_
    exact ih2 l1 (l2 + 1) m6 hf
theorem wX9_findBound_l2 (E : pEv) (z : Int32 × pMem) : ∀ (n : Nat) (l1 : Int32) (l2 : Int32) (m : pMem), sX9_findBound_l2 n l1 l2 m = some z → gM E kX9_findBound z 2 [(0, .ref (eA E 9)), (1, .int l1), (2, .int l2)] [] m := by
  intro n
  induction n with
  | zero => intro l1 l2 m  hf; cases (show (none : Option _) = some z from hf)
  | succ n ih => intro l1 l2 m  hf; exact wX9_findBound_b2 E z  _  ih l1 l2 m  hf
theorem wX9_findBound_b0 (E : pEv) (z : Int32 × pMem) (a1 : Int32) (m : pMem) (hf : sX9_findBound a1 m = some z) : gM E kX9_findBound z 0 [(0, .ref (eA E 9)), (1, .int a1)] [] m := by
  unfold sX9_findBound at hf
  refine g_iconst (v := 0) dX9_findBound_0 kI_0 ?_
  refine g_istore_n dX9_findBound_1 rfl (Nat.le_of_ble_eq_true rfl) rfl ?_
  refine g_lv [1, 2, 0] rfl ?_
  exact wX9_findBound_l2 E z  5000 a1 0 m hf
theorem tX9_findBound (E : pEv) (m : pMem) (a1 : Int32) {z : Int32 × pMem} (hf : sX9_findBound a1 m = some z) : gCn E yX9_findBound kX9_findBound [.ref (eA E 9), .int a1] m z := gCn_of (by decide +kernel) rfl rfl rfl (Nat.le_of_ble_eq_true rfl) rfl (wX9_findBound_b0 E z a1 m  hf)
theorem wX9_from_b44 (E : pEv) (z : Int32) (t0 : Int32) (m : pMem) (hf : sX9_from_b44 t0 m = some z) : gM E kX9_from (z, m) 44 [] [.int t0] m := by
  unfold sX9_from_b44 at hf
  exact g_ret dX9_from_44 rfl rfl (by rw [Option.some.inj hf])
theorem wX9_from_b0 (E : pEv) (z : Int32) (a1 : Int32) (a2 : Int32) (m : pMem) (hf : sX9_from a1 a2 m = some z) : gM E kX9_from (z, m) 0 [(0, .ref (eA E 9)), (1, .int a1), (2, .int a2)] [] m := by
  unfold sX9_from at hf
  refine g_aload_n (q := 0) dX9_from_0 rfl rfl ?_
  refine g_iload_n (q := 1) dX9_from_1 rfl rfl ?_
  obtain ⟨r1, q2, hf⟩ := cbR_ hf
  refine g_cV (As := [.int a1]) dX9_from_2 (tX9_isLand E m a1 q2) gyX9_isLand giX9_isLand gsX9_isLand mX9_187 (⟨rfl, rfl, Nat.le_of_ble_eq_true rfl, Nat.le_of_ble_eq_true rfl, Nat.le_of_ble_eq_true rfl, Nat.le_of_ble_eq_true rfl⟩) rfl (obX9 E m) rfl rfl rfl (Nat.le_of_ble_eq_true rfl) ?_
  refine g_if_ne (tgt := 11) dX9_from_5 (by decide) (fun c3 => ?_) (fun c3 => ?_)
  · have hf := it_ hf c3
    refine g_iload_n (q := 2) dX9_from_11 rfl rfl ?_
    refine g_iconst (v := 0) dX9_from_12 kI_0 ?_
    refine g_iconst (v := 1) dX9_from_13 kI_1 ?_
    obtain ⟨r4, q5, hf⟩ := cbR_ hf
    refine g_cS (As := [.int a2, .int 0, .int 1]) dX9_from_14 (tX9_in E m a2 0 1 q5) gyX9_in giX9_in mX9_148 (⟨rfl, rfl, Nat.le_of_ble_eq_true rfl, Nat.le_of_ble_eq_true rfl, Nat.le_of_ble_eq_true rfl, Nat.le_of_ble_eq_true rfl⟩) rfl rfl rfl (Nat.le_of_ble_eq_true rfl) ?_
    refine g_if_ne (tgt := 25) dX9_from_17 (by decide) (fun c6 => ?_) (fun c6 => ?_)
    · have hf := it_ hf c6
      refine g_iload_n (q := 2) dX9_from_25 rfl rfl ?_
      refine g_if_ne (tgt := 38) dX9_from_26 (by decide) (fun c7 => ?_) (fun c7 => ?_)
      · have hf := it_ hf c7
        refine g_aload_n (q := 0) dX9_from_38 rfl rfl ?_
        refine g_get dX9_from_39 fX9_23 (obX9 E m) (gvX9_5 E m) ?_
        refine g_iload_n (q := 1) dX9_from_42 rfl rfl ?_
        obtain ⟨h8, hf⟩ := gd_ hf
        refine g_iald dX9_from_43 ar_67 h8 ?_
        refine g_lv [] rfl ?_
        exact wX9_from_b44 E z  (m.1 67 a1.toNatClampNeg) m hf
      · have hf := ie_ hf (not_not_intro c7)
        refine g_aload_n (q := 0) dX9_from_29 rfl rfl ?_
        refine g_get dX9_from_30 fX9_20 (obX9 E m) (gvX9_4 E m) ?_
        refine g_iload_n (q := 1) dX9_from_33 rfl rfl ?_
        obtain ⟨h9, hf⟩ := gd_ hf
        refine g_iald dX9_from_34 ar_66 h9 ?_
        refine g_goto (tgt := 44) dX9_from_35 (by decide) ?_
        refine g_lv [] rfl ?_
        exact wX9_from_b44 E z  (m.1 66 a1.toNatClampNeg) m hf
    · have hf := ie_ hf (not_not_intro c6)
      refine g_bipush (v := (-3)) dX9_from_20 kB_m3 ?_
      refine g_goto (tgt := 44) dX9_from_22 (by decide) ?_
      refine g_lv [] rfl ?_
      exact wX9_from_b44 E z  (-3) m hf
  · have hf := ie_ hf (not_not_intro c3)
    refine g_bipush (v := (-2)) dX9_from_8 kB_m2 ?_
    exact g_ret dX9_from_10 rfl rfl (by rw [Option.some.inj hf])
theorem tX9_from (E : pEv) (m : pMem) (a1 : Int32) (a2 : Int32) {z : Int32} (hf : sX9_from a1 a2 m = some z) : gCn E yX9_from kX9_from [.ref (eA E 9), .int a1, .int a2] m (z, m) := gCn_of (by decide +kernel) rfl rfl rfl (Nat.le_of_ble_eq_true rfl) rfl (wX9_from_b0 E z a1 a2 m  hf)
theorem wX9_ground_b22 (E : pEv) (z : Int32 × pMem) (m : pMem) (hf : sX9_ground_b22  m = some z) : gM E kX9_ground z 22 [] [] m := by
  unfold sX9_ground_b22 at hf
  refine g_bipush (v := (-3)) dX9_ground_22 kB_m3 ?_
  exact g_ret dX9_ground_24 rfl rfl (Option.some.inj hf).symm
theorem wX9_ground_b0 (E : pEv) (z : Int32 × pMem) (a1 : Int32) (a2 : Int32) (m : pMem) (hf : sX9_ground a1 a2 m = some z) : gM E kX9_ground z 0 [(0, .ref (eA E 9)), (1, .int a1), (2, .int a2)] [] m := by
  unfold sX9_ground at hf
  refine g_iload_n (q := 1) dX9_ground_0 rfl rfl ?_
  refine g_iconst (v := 1) dX9_ground_1 kI_1 ?_
  refine g_sipush (v := 999) dX9_ground_2 kS_999 ?_
  obtain ⟨r1, q2, hf⟩ := cbR_ hf
  refine g_cS (As := [.int a1, .int 1, .int 999]) dX9_ground_5 (tX9_in E m a1 1 999 q2) gyX9_in giX9_in mX9_148 (⟨rfl, rfl, Nat.le_of_ble_eq_true rfl, Nat.le_of_ble_eq_true rfl, Nat.le_of_ble_eq_true rfl, Nat.le_of_ble_eq_true rfl⟩) rfl rfl rfl (Nat.le_of_ble_eq_true rfl) ?_
  refine g_if_eq (tgt := 22) dX9_ground_8 (by decide) (fun c3 => ?_) (fun c3 => ?_)
  · have hf := it_ hf c3
    refine g_lv [] rfl ?_
    exact wX9_ground_b22 E z  m hf
  · have hf := ie_ hf c3
    refine g_iload_n (q := 2) dX9_ground_11 rfl rfl ?_
    refine g_iconst (v := 0) dX9_ground_12 kI_0 ?_
    refine g_sipush (v := 999) dX9_ground_13 kS_999 ?_
    obtain ⟨r4, q5, hf⟩ := cbR_ hf
    refine g_cS (As := [.int a2, .int 0, .int 999]) dX9_ground_16 (tX9_in E m a2 0 999 q5) gyX9_in giX9_in mX9_148 (⟨rfl, rfl, Nat.le_of_ble_eq_true rfl, Nat.le_of_ble_eq_true rfl, Nat.le_of_ble_eq_true rfl, Nat.le_of_ble_eq_true rfl⟩) rfl rfl rfl (Nat.le_of_ble_eq_true rfl) ?_
    refine g_if_ne (tgt := 25) dX9_ground_19 (by decide) (fun c6 => ?_) (fun c6 => ?_)
    · have hf := it_ hf c6
      refine g_aload_n (q := 0) dX9_ground_25 rfl rfl ?_
      refine g_get dX9_ground_26 fX9_152 (obX9 E m) (gvX9_6 E m) ?_
      refine g_if_le (tgt := 35) dX9_ground_29 (by decide) (fun c7 => ?_) (fun c7 => ?_)
      · have hf := it_ hf c7
        refine g_aload_n (q := 0) dX9_ground_35 rfl rfl ?_
        refine g_get dX9_ground_36 fX9_145 (obX9 E m) (gvX9_0 E m) ?_
        refine g_bipush (v := 8) dX9_ground_39 kB_8 ?_
        refine g_icmp_ne (tgt := 47) dX9_ground_41 (by decide) (fun c8 => ?_) (fun c8 => ?_)
        · have hf := it_ hf c8
          refine g_aload_n (q := 0) dX9_ground_47 rfl rfl ?_
          refine g_get dX9_ground_48 fX9_7 (obX9 E m) (gvX9_1 E m) ?_
          refine g_aload_n (q := 0) dX9_ground_51 rfl rfl ?_
          refine g_get dX9_ground_52 fX9_145 (obX9 E m) (gvX9_0 E m) ?_
          refine g_iload_n (q := 1) dX9_ground_55 rfl rfl ?_
          obtain ⟨h9, hf⟩ := gd_ hf
          refine g_iast dX9_ground_56 ar_64 h9 ?_
          refine nmG hf (fun m10 hf => ?_)
          refine g_aload_n (q := 0) dX9_ground_57 rfl rfl ?_
          refine g_get dX9_ground_58 fX9_13 (obX9 E m10) (gvX9_2 E m10) ?_
          refine g_aload_n (q := 0) dX9_ground_61 rfl rfl ?_
          refine g_get dX9_ground_62 fX9_145 (obX9 E m10) (gvX9_0 E m10) ?_
          refine g_iload_n (q := 2) dX9_ground_65 rfl rfl ?_
          obtain ⟨h11, hf⟩ := gd_ hf
          refine g_iast dX9_ground_66 ar_65 h11 ?_
          refine nmG hf (fun m12 hf => ?_)
          refine g_aload_n (q := 0) dX9_ground_67 rfl rfl ?_
          refine g_get dX9_ground_68 fX9_44 (obX9 E m12) (gvX9_13 E m12) ?_
          refine g_aload_n (q := 0) dX9_ground_71 rfl rfl ?_
          refine g_get dX9_ground_72 fX9_145 (obX9 E m12) (gvX9_0 E m12) ?_
          refine g_iconst (v := 0) dX9_ground_75 kI_0 ?_
          obtain ⟨h13, hf⟩ := gd_ hf
          refine g_iast dX9_ground_76 ar_74 h13 ?_
          refine nmG hf (fun m14 hf => ?_)
          refine g_aload_n (q := 0) dX9_ground_77 rfl rfl ?_
          refine g_dup dX9_ground_78 rfl ?_
          refine g_get dX9_ground_79 fX9_145 (obX9 E m14) (gvX9_0 E m14) ?_
          refine g_iconst (v := 1) dX9_ground_82 kI_1 ?_
          refine g_iadd dX9_ground_83 ?_
          refine g_put dX9_ground_84 fX9_145 fwX9_0 rfl rfl (obX9 E m14) (Nat.le_of_ble_eq_true rfl) (psX9_0 E m14 _) ?_
          refine nmG hf (fun m15 hf => ?_)
          refine g_aload_n (q := 0) dX9_ground_87 rfl rfl ?_
          refine g_get dX9_ground_88 fX9_145 (obX9 E m15) (gvX9_0 E m15) ?_
          refine g_iconst (v := 1) dX9_ground_91 kI_1 ?_
          refine g_isub dX9_ground_92 ?_
          exact g_ret dX9_ground_93 rfl rfl (Option.some.inj hf).symm
        · have hf := ie_ hf (not_not_intro c8)
          refine g_bipush (v := (-5)) dX9_ground_44 kB_m5 ?_
          exact g_ret dX9_ground_46 rfl rfl (Option.some.inj hf).symm
      · have hf := ie_ hf c7
        refine g_bipush (v := (-4)) dX9_ground_32 kB_m4 ?_
        exact g_ret dX9_ground_34 rfl rfl (Option.some.inj hf).symm
    · have hf := ie_ hf (not_not_intro c6)
      refine g_lv [] rfl ?_
      exact wX9_ground_b22 E z  m hf
theorem tX9_ground (E : pEv) (m : pMem) (a1 : Int32) (a2 : Int32) {z : Int32 × pMem} (hf : sX9_ground a1 a2 m = some z) : gCn E yX9_ground kX9_ground [.ref (eA E 9), .int a1, .int a2] m z := gCn_of (by decide +kernel) rfl rfl rfl (Nat.le_of_ble_eq_true rfl) rfl (wX9_ground_b0 E z a1 a2 m  hf)
theorem wX9_hangs_b146 (E : pEv) (z : Int32 × pMem) (k54 : Int32 → Int32 → Int32 → Int32 → Int32 → Int32 → pMem → gO) (ih54 : ∀ (l1 : Int32) (l2 : Int32) (l3 : Int32) (l4 : Int32) (l5 : Int32) (l7 : Int32)  (m : pMem), k54 l1 l2 l3 l4 l5 l7 m = some z → gM E kX9_hangs z 54 [(0, .ref (eA E 9)), (1, .int l1), (2, .int l2), (3, .int l3), (4, .int l4), (5, .int l5), (7, .int l7)] [] m) (l1 : Int32) (l2 : Int32) (l3 : Int32) (l5 : Int32) (l7 : Int32) (t0 : Int32) (m : pMem) (hf : sX9_hangs_b146 k54 l1 l2 l3 l5 l7 t0 m = some z) : gM E kX9_hangs z 146 [(0, .ref (eA E 9)), (1, .int l1), (2, .int l2), (3, .int l3), (5, .int l5), (7, .int l7)] [.int t0] m := by
  unfold sX9_hangs_b146 at hf
  refine g_istore dX9_hangs_146 (Nat.le_of_ble_eq_true rfl) rfl ?_
  refine g_iinc (q := 6) (v := l7 + 1) dX9_hangs_148 rfl (by rw [kI_1]) (Nat.le_of_ble_eq_true rfl) rfl ?_
  refine g_goto (tgt := 54) dX9_hangs_151 (by decide) ?_
  refine g_lv [2, 3, 4, 5, 1, 6, 0] rfl ?_
  exact ih54 l1 l2 l3 t0 l5 (l7 + 1) m hf
theorem wX9_hangs_b131 (E : pEv) (z : Int32 × pMem) (k54 : Int32 → Int32 → Int32 → Int32 → Int32 → Int32 → pMem → gO) (ih54 : ∀ (l1 : Int32) (l2 : Int32) (l3 : Int32) (l4 : Int32) (l5 : Int32) (l7 : Int32)  (m : pMem), k54 l1 l2 l3 l4 l5 l7 m = some z → gM E kX9_hangs z 54 [(0, .ref (eA E 9)), (1, .int l1), (2, .int l2), (3, .int l3), (4, .int l4), (5, .int l5), (7, .int l7)] [] m) (l1 : Int32) (l2 : Int32) (l4 : Int32) (l5 : Int32) (l7 : Int32) (t0 : Int32) (m : pMem) (hf : sX9_hangs_b131 k54 l1 l2 l4 l5 l7 t0 m = some z) : gM E kX9_hangs z 131 [(0, .ref (eA E 9)), (1, .int l1), (2, .int l2), (4, .int l4), (5, .int l5), (7, .int l7)] [.int t0] m := by
  unfold sX9_hangs_b131 at hf
  refine g_istore_n dX9_hangs_131 rfl (Nat.le_of_ble_eq_true rfl) rfl ?_
  refine g_iload (q := 5) dX9_hangs_132 rfl ?_
  refine g_iload (q := 4) dX9_hangs_134 rfl ?_
  refine g_icmp_le (tgt := 144) dX9_hangs_136 (by decide) (fun c25 => ?_) (fun c25 => ?_)
  · have hf := it_ hf c25
    refine g_iload (q := 4) dX9_hangs_144 rfl ?_
    refine g_lv [1, 2, 3, 0, 5, 6] rfl ?_
    exact wX9_hangs_b146 E z k54 ih54 l1 l2 t0 l5 l7 l4 m hf
  · have hf := ie_ hf c25
    refine g_iload (q := 5) dX9_hangs_139 rfl ?_
    refine g_goto (tgt := 146) dX9_hangs_141 (by decide) ?_
    refine g_lv [1, 2, 3, 0, 5, 6] rfl ?_
    exact wX9_hangs_b146 E z k54 ih54 l1 l2 t0 l5 l7 l5 m hf
theorem wX9_hangs_b66 (E : pEv) (z : Int32 × pMem) (k54 : Int32 → Int32 → Int32 → Int32 → Int32 → Int32 → pMem → gO) (k66 : Int32 → Int32 → Int32 → Int32 → Int32 → Int32 → Int32 → pMem → gO) (ih54 : ∀ (l1 : Int32) (l2 : Int32) (l3 : Int32) (l4 : Int32) (l5 : Int32) (l7 : Int32)  (m : pMem), k54 l1 l2 l3 l4 l5 l7 m = some z → gM E kX9_hangs z 54 [(0, .ref (eA E 9)), (1, .int l1), (2, .int l2), (3, .int l3), (4, .int l4), (5, .int l5), (7, .int l7)] [] m) (ih66 : ∀ (l1 : Int32) (l2 : Int32) (l3 : Int32) (l4 : Int32) (l5 : Int32) (l7 : Int32) (l8 : Int32)  (m : pMem), k66 l1 l2 l3 l4 l5 l7 l8 m = some z → gM E kX9_hangs z 66 [(0, .ref (eA E 9)), (1, .int l1), (2, .int l2), (3, .int l3), (4, .int l4), (5, .int l5), (7, .int l7), (8, .int l8)] [] m) (l1 : Int32) (l2 : Int32) (l3 : Int32) (l4 : Int32) (l5 : Int32) (l7 : Int32) (l8 : Int32) (m : pMem) (hf : sX9_hangs_b66 k54 k66 l1 l2 l3 l4 l5 l7 l8 m = some z) : gM E kX9_hangs z 66 [(0, .ref (eA E 9)), (1, .int l1), (2, .int l2), (3, .int l3), (4, .int l4), (5, .int l5), (7, .int l7), (8, .int l8)] [] m := by
  unfold sX9_hangs_b66 at hf
  refine g_iload (q := 7) dX9_hangs_66 rfl ?_
  refine g_aload_n (q := 0) dX9_hangs_68 rfl rfl ?_
  refine g_get dX9_hangs_69 fX9_159 (obX9 E m) (gvX9_26 E m) ?_
  refine g_icmp_ge (tgt := 118) dX9_hangs_72 (by decide) (fun c14 => ?_) (fun c14 => ?_)
  · have hf := it_ hf c14
    refine g_iload (q := 5) dX9_hangs_118 rfl ?_
    refine g_iload (q := 4) dX9_hangs_120 rfl ?_
    refine g_icmp_le (tgt := 130) dX9_hangs_122 (by decide) (fun c15 => ?_) (fun c15 => ?_)
    · have hf := it_ hf c15
      refine g_iload_n (q := 3) dX9_hangs_130 rfl rfl ?_
      refine g_lv [0, 1, 2, 4, 5, 6] rfl ?_
      exact wX9_hangs_b131 E z k54 ih54 l1 l2 l4 l5 l7 l3 m hf
    · have hf := ie_ hf c15
      refine g_iload (q := 6) dX9_hangs_125 rfl ?_
      refine g_goto (tgt := 131) dX9_hangs_127 (by decide) ?_
      refine g_lv [0, 1, 2, 4, 5, 6] rfl ?_
      exact wX9_hangs_b131 E z k54 ih54 l1 l2 l4 l5 l7 l7 m hf
  · have hf := ie_ hf c14
    refine g_aload_n (q := 0) dX9_hangs_75 rfl rfl ?_
    refine g_iload (q := 7) dX9_hangs_76 rfl ?_
    refine g_iload (q := 6) dX9_hangs_78 rfl ?_
    obtain ⟨r16, m18, q17, hf⟩ := cbE_ hf
    refine g_cV (As := [.int l8, .int l7]) dX9_hangs_80 (tX9_boundOf E m l8 l7 q17) gyX9_boundOf giX9_boundOf gsX9_boundOf mX9_325 (⟨rfl, rfl, Nat.le_of_ble_eq_true rfl, Nat.le_of_ble_eq_true rfl, Nat.le_of_ble_eq_true rfl, Nat.le_of_ble_eq_true rfl⟩) rfl (obX9 E m) rfl rfl rfl (Nat.le_of_ble_eq_true rfl) ?_
    refine g_istore dX9_hangs_83 (Nat.le_of_ble_eq_true rfl) rfl ?_
    refine g_iload (q := 6) dX9_hangs_85 rfl ?_
    refine g_iload (q := 0) dX9_hangs_87 rfl ?_
    refine g_aload_n (q := 1) dX9_hangs_89 rfl rfl ?_
    refine g_get dX9_hangs_90 fX9_105 (obX9 E m18) (gvX9_45 E m18) ?_
    refine g_iload (q := 8) dX9_hangs_93 rfl ?_
    obtain ⟨h19, hf⟩ := gd_ hf
    refine g_iald dX9_hangs_95 ar_94 h19 ?_
    refine g_ixor dX9_hangs_96 ?_
    obtain ⟨r20, q21, hf⟩ := cbR_ hf
    refine g_cS (As := [.int (r16 ^^^ (m18.1 94 l8.toNatClampNeg))]) dX9_hangs_97 (tX9_bits E m18 (r16 ^^^ (m18.1 94 l8.toNatClampNeg)) q21) gyX9_bits giX9_bits mX9_361 (⟨rfl, rfl, Nat.le_of_ble_eq_true rfl, Nat.le_of_ble_eq_true rfl, Nat.le_of_ble_eq_true rfl, Nat.le_of_ble_eq_true rfl⟩) rfl rfl rfl (Nat.le_of_ble_eq_true rfl) ?_
    refine g_iadd dX9_hangs_100 ?_
    refine nmI hf (fun x22 hf => ?_)
    refine g_istore dX9_hangs_101 (Nat.le_of_ble_eq_true rfl) rfl ?_
    refine g_aload_n (q := 2) dX9_hangs_103 rfl rfl ?_
    refine g_get dX9_hangs_104 fX9_105 (obX9 E m18) (gvX9_45 E m18) ?_
    refine g_iload (q := 8) dX9_hangs_107 rfl ?_
    refine g_iload (q := 1) dX9_hangs_109 rfl ?_
    obtain ⟨h23, hf⟩ := gd_ hf
    refine g_iast dX9_hangs_111 ar_94 h23 ?_
    refine nmG hf (fun m24 hf => ?_)
    refine g_iinc (q := 8) (v := l8 + 1) dX9_hangs_112 rfl (by rw [kI_1]) (Nat.le_of_ble_eq_true rfl) rfl ?_
    refine g_goto (tgt := 66) dX9_hangs_115 (by decide) ?_
    refine g_lv [3, 4, 5, 6, 7, 1, 8, 0] rfl ?_
    exact ih66 l1 l2 l3 l4 x22 l7 (l8 + 1) m24 hf
theorem wX9_hangs_l66 (E : pEv) (z : Int32 × pMem) (k54 : Int32 → Int32 → Int32 → Int32 → Int32 → Int32 → pMem → gO) (ih54 : ∀ (l1 : Int32) (l2 : Int32) (l3 : Int32) (l4 : Int32) (l5 : Int32) (l7 : Int32)  (m : pMem), k54 l1 l2 l3 l4 l5 l7 m = some z → gM E kX9_hangs z 54 [(0, .ref (eA E 9)), (1, .int l1), (2, .int l2), (3, .int l3), (4, .int l4), (5, .int l5), (7, .int l7)] [] m) : ∀ (n : Nat) (l1 : Int32) (l2 : Int32) (l3 : Int32) (l4 : Int32) (l5 : Int32) (l7 : Int32) (l8 : Int32) (m : pMem), sX9_hangs_l66 k54 n l1 l2 l3 l4 l5 l7 l8 m = some z → gM E kX9_hangs z 66 [(0, .ref (eA E 9)), (1, .int l1), (2, .int l2), (3, .int l3), (4, .int l4), (5, .int l5), (7, .int l7), (8, .int l8)] [] m := by
  intro n
  induction n with
  | zero => intro l1 l2 l3 l4 l5 l7 l8 m  hf; cases (show (none : Option _) = some z from hf)
  | succ n ih => intro l1 l2 l3 l4 l5 l7 l8 m  hf; exact wX9_hangs_b66 E z k54 _ ih54 ih l1 l2 l3 l4 l5 l7 l8 m  hf
theorem wX9_hangs_b164 (E : pEv) (z : Int32 × pMem) (t0 : Int32) (m : pMem) (hf : sX9_hangs_b164 t0 m = some z) : gM E kX9_hangs z 164 [] [.int t0] m := by
  unfold sX9_hangs_b164 at hf
  exact g_ret dX9_hangs_164 rfl rfl (Option.some.inj hf).symm
theorem wX9_hangs_b54 (E : pEv) (z : Int32 × pMem) (k54 : Int32 → Int32 → Int32 → Int32 → Int32 → Int32 → pMem → gO) (ih54 : ∀ (l1 : Int32) (l2 : Int32) (l3 : Int32) (l4 : Int32) (l5 : Int32) (l7 : Int32)  (m : pMem), k54 l1 l2 l3 l4 l5 l7 m = some z → gM E kX9_hangs z 54 [(0, .ref (eA E 9)), (1, .int l1), (2, .int l2), (3, .int l3), (4, .int l4), (5, .int l5), (7, .int l7)] [] m) (l1 : Int32) (l2 : Int32) (l3 : Int32) (l4 : Int32) (l5 : Int32) (l7 : Int32) (m : pMem) (hf : sX9_hangs_b54 k54 l1 l2 l3 l4 l5 l7 m = some z) : gM E kX9_hangs z 54 [(0, .ref (eA E 9)), (1, .int l1), (2, .int l2), (3, .int l3), (4, .int l4), (5, .int l5), (7, .int l7)] [] m := by
  unfold sX9_hangs_b54 at hf
  refine g_iload (q := 6) dX9_hangs_54 rfl ?_
  refine g_iload_n (q := 1) dX9_hangs_56 rfl rfl ?_
  refine g_icmp_gt (tgt := 154) dX9_hangs_57 (by decide) (fun c12 => ?_) (fun c12 => ?_)
  · have hf := it_ hf c12
    refine g_iload_n (q := 2) dX9_hangs_154 rfl rfl ?_
    refine g_if_ne (tgt := 163) dX9_hangs_155 (by decide) (fun c13 => ?_) (fun c13 => ?_)
    · have hf := it_ hf c13
      refine g_iload_n (q := 3) dX9_hangs_163 rfl rfl ?_
      refine g_lv [] rfl ?_
      exact wX9_hangs_b164 E z  l3 m hf
    · have hf := ie_ hf (not_not_intro c13)
      refine g_iload (q := 5) dX9_hangs_158 rfl ?_
      refine g_goto (tgt := 164) dX9_hangs_160 (by decide) ?_
      refine g_lv [] rfl ?_
      exact wX9_hangs_b164 E z  l5 m hf
  · have hf := ie_ hf c12
    refine g_iconst (v := 0) dX9_hangs_60 kI_0 ?_
    refine g_istore dX9_hangs_61 (Nat.le_of_ble_eq_true rfl) rfl ?_
    refine g_iconst (v := 0) dX9_hangs_63 kI_0 ?_
    refine g_istore dX9_hangs_64 (Nat.le_of_ble_eq_true rfl) rfl ?_
    refine g_lv [2, 3, 4, 5, 6, 1, 7, 0] rfl ?_
    exact wX9_hangs_l66 E z k54 ih54 5000 l1 l2 l3 l4 0 l7 0 m hf
theorem wX9_hangs_l54 (E : pEv) (z : Int32 × pMem) : ∀ (n : Nat) (l1 : Int32) (l2 : Int32) (l3 : Int32) (l4 : Int32) (l5 : Int32) (l7 : Int32) (m : pMem), sX9_hangs_l54 n l1 l2 l3 l4 l5 l7 m = some z → gM E kX9_hangs z 54 [(0, .ref (eA E 9)), (1, .int l1), (2, .int l2), (3, .int l3), (4, .int l4), (5, .int l5), (7, .int l7)] [] m := by
  intro n
  induction n with
  | zero => intro l1 l2 l3 l4 l5 l7 m  hf; cases (show (none : Option _) = some z from hf)
  | succ n ih => intro l1 l2 l3 l4 l5 l7 m  hf; exact wX9_hangs_b54 E z  _  ih l1 l2 l3 l4 l5 l7 m  hf
theorem wX9_hangs_b40 (E : pEv) (z : Int32 × pMem) (l1 : Int32) (l2 : Int32) (l3 : Int32) (l4 : Int32) (l5 : Int32) (t0 : Int32) (m : pMem) (hf : sX9_hangs_b40 l1 l2 l3 l4 l5 t0 m = some z) : gM E kX9_hangs z 40 [(0, .ref (eA E 9)), (1, .int l1), (2, .int l2), (3, .int l3), (4, .int l4), (5, .int l5)] [.int t0] m := by
  unfold sX9_hangs_b40 at hf
  refine g_istore dX9_hangs_40 (Nat.le_of_ble_eq_true rfl) rfl ?_
  refine g_aload_n (q := 1) dX9_hangs_42 rfl rfl ?_
  refine g_iload (q := 0) dX9_hangs_43 rfl ?_
  refine g_iconst (v := 1) dX9_hangs_45 kI_1 ?_
  refine g_isub dX9_hangs_46 ?_
  obtain ⟨r9, m11, q10, hf⟩ := cbE_ hf
  refine g_cVv (As := [.int (t0 - (1 : Int32))]) dX9_hangs_47 (tX9_findBound E m (t0 - (1 : Int32)) q10) gyX9_findBound giX9_findBound gsX9_findBound mX9_357 (⟨rfl, rfl, Nat.le_of_ble_eq_true rfl, Nat.le_of_ble_eq_true rfl, Nat.le_of_ble_eq_true rfl, Nat.le_of_ble_eq_true rfl⟩) rfl (obX9 E m) rfl rfl rfl (Nat.le_of_ble_eq_true rfl) ?_
  refine g_iload (q := 0) dX9_hangs_50 rfl ?_
  refine g_istore dX9_hangs_52 (Nat.le_of_ble_eq_true rfl) rfl ?_
  refine g_lv [2, 3, 4, 5, 6, 7, 0] rfl ?_
  exact wX9_hangs_l54 E z  5000 l1 l2 l3 l4 l5 t0 m11 hf
theorem wX9_hangs_b20 (E : pEv) (z : Int32 × pMem) (m : pMem) (hf : sX9_hangs_b20  m = some z) : gM E kX9_hangs z 20 [] [] m := by
  unfold sX9_hangs_b20 at hf
  refine g_bipush (v := (-3)) dX9_hangs_20 kB_m3 ?_
  exact g_ret dX9_hangs_22 rfl rfl (Option.some.inj hf).symm
theorem wX9_hangs_b0 (E : pEv) (z : Int32 × pMem) (a1 : Int32) (a2 : Int32) (m : pMem) (hf : sX9_hangs a1 a2 m = some z) : gM E kX9_hangs z 0 [(0, .ref (eA E 9)), (1, .int a1), (2, .int a2)] [] m := by
  unfold sX9_hangs at hf
  refine g_iload_n (q := 1) dX9_hangs_0 rfl rfl ?_
  refine g_iconst (v := 1) dX9_hangs_1 kI_1 ?_
  refine g_sipush (v := 999) dX9_hangs_2 kS_999 ?_
  obtain ⟨r1, q2, hf⟩ := cbR_ hf
  refine g_cS (As := [.int a1, .int 1, .int 999]) dX9_hangs_5 (tX9_in E m a1 1 999 q2) gyX9_in giX9_in mX9_148 (⟨rfl, rfl, Nat.le_of_ble_eq_true rfl, Nat.le_of_ble_eq_true rfl, Nat.le_of_ble_eq_true rfl, Nat.le_of_ble_eq_true rfl⟩) rfl rfl rfl (Nat.le_of_ble_eq_true rfl) ?_
  refine g_if_eq (tgt := 20) dX9_hangs_8 (by decide) (fun c3 => ?_) (fun c3 => ?_)
  · have hf := it_ hf c3
    refine g_lv [] rfl ?_
    exact wX9_hangs_b20 E z  m hf
  · have hf := ie_ hf c3
    refine g_iload_n (q := 2) dX9_hangs_11 rfl rfl ?_
    refine g_iconst (v := 0) dX9_hangs_12 kI_0 ?_
    refine g_iconst (v := 1) dX9_hangs_13 kI_1 ?_
    obtain ⟨r4, q5, hf⟩ := cbR_ hf
    refine g_cS (As := [.int a2, .int 0, .int 1]) dX9_hangs_14 (tX9_in E m a2 0 1 q5) gyX9_in giX9_in mX9_148 (⟨rfl, rfl, Nat.le_of_ble_eq_true rfl, Nat.le_of_ble_eq_true rfl, Nat.le_of_ble_eq_true rfl, Nat.le_of_ble_eq_true rfl⟩) rfl rfl rfl (Nat.le_of_ble_eq_true rfl) ?_
    refine g_if_ne (tgt := 23) dX9_hangs_17 (by decide) (fun c6 => ?_) (fun c6 => ?_)
    · have hf := it_ hf c6
      refine g_iconst (v := 0) dX9_hangs_23 kI_0 ?_
      refine g_istore_n dX9_hangs_24 rfl (Nat.le_of_ble_eq_true rfl) rfl ?_
      refine g_iconst (v := (-1)) dX9_hangs_25 kI_m1 ?_
      refine nmI hf (fun x7 hf => ?_)
      refine g_istore dX9_hangs_26 (Nat.le_of_ble_eq_true rfl) rfl ?_
      refine g_iconst (v := 0) dX9_hangs_28 kI_0 ?_
      refine g_istore dX9_hangs_29 (Nat.le_of_ble_eq_true rfl) rfl ?_
      refine g_iload_n (q := 5) dX9_hangs_31 rfl rfl ?_
      refine g_if_ne (tgt := 39) dX9_hangs_32 (by decide) (fun c8 => ?_) (fun c8 => ?_)
      · have hf := it_ hf c8
        refine g_iconst (v := 1) dX9_hangs_39 kI_1 ?_
        refine g_lv [3, 4, 5, 2, 1, 0] rfl ?_
        exact wX9_hangs_b40 E z  a1 a2 0 x7 0 1 m hf
      · have hf := ie_ hf (not_not_intro c8)
        refine g_iload_n (q := 4) dX9_hangs_35 rfl rfl ?_
        refine g_goto (tgt := 40) dX9_hangs_36 (by decide) ?_
        refine g_lv [3, 4, 5, 2, 1, 0] rfl ?_
        exact wX9_hangs_b40 E z  a1 a2 0 x7 0 a1 m hf
    · have hf := ie_ hf (not_not_intro c6)
      refine g_lv [] rfl ?_
      exact wX9_hangs_b20 E z  m hf
theorem tX9_hangs (E : pEv) (m : pMem) (a1 : Int32) (a2 : Int32) {z : Int32 × pMem} (hf : sX9_hangs a1 a2 m = some z) : gCn E yX9_hangs kX9_hangs [.ref (eA E 9), .int a1, .int a2] m z := gCn_of (by decide +kernel) rfl rfl rfl (Nat.le_of_ble_eq_true rfl) rfl (wX9_hangs_b0 E z a1 a2 m  hf)
