/-! bits counted -/
def bc (x : Int32) : Int32 := (sJ6_bitCount_0f7a4 x (fun _ _ => 0, fun _ _ => 0)).getD 0
theorem p_bc (x : Int32) (m : pMem) : sJ6_bitCount_0f7a4 x m = some (bc x) := rfl
def b10 (x : Int32) : Nat → Int32
  | 0 => 0
  | n + 1 => b10 x n + ((x >>> (nI n &&& 31)) &&& (1 : Int32))
theorem b10_s (x : Int32) (n : Nat) : b10 x (n + 1) = b10 x n + ((x >>> (nI n &&& 31)) &&& (1 : Int32)) := rfl
theorem bc_b10 : ∀ k, k < 1024 → bc (nI k) = b10 (nI k) 10 := by decide +kernel
theorem bc_r : ∀ k, k < 1024 → ¬ bc (nI k) < 0 ∧ bc (nI k) < 11 := by decide +kernel
theorem low10 {x : Int32} (h : ∀ i, 10 ≤ i → i < 32 → bt x i = false) : ∃ k, k < 1024 ∧ x = nI k := by
  refine ⟨x.toBitVec.toNat, Nat.lt_pow_two_of_testBit (n := 10) _ (fun i hi => ?_), ?_⟩
  · rcases Nat.lt_or_ge i 32 with z | z
    · exact h i hi z
    · exact b_big z
  · apply Int32.toBitVec_inj.mp
    apply BitVec.eq_of_toNat_eq
    show _ = (BitVec.ofNat 32 x.toBitVec.toNat).toNat
    rw [BitVec.toNat_ofNat, Nat.mod_eq_of_lt x.toBitVec.isLt]
theorem x_self (x : Int32) : x ^^^ x = 0 := b_ext (fun i _ => by
  rw [b_xor, b_0]
  cases bt x i <;> rfl)
theorem bi4_s (f : Nat) : sX9_bits_l4 (f + 1) = sX9_bits_b4 (sX9_bits_l4 f) := rfl
theorem l_bits (x : Int32) (m : pMem) : ∀ (j i f : Nat), i + j = 10 → j < f → sX9_bits_l4 f x (b10 x i) (nI i) m = some (b10 x 10) := by
  intro j
  induction j with
  | zero =>
    intro i f hij hf
    obtain ⟨f, rfl⟩ := fuel_s (Nat.lt_of_le_of_lt (Nat.zero_le _) hf)
    have : i = 10 := by omega
    subst this
    rw [bi4_s]
    unfold sX9_bits_b4
    rw [if_pos (show (10 : Int32) ≤ nI 10 by decide)]
  | succ j ih =>
    intro i f hij hf
    obtain ⟨f, rfl⟩ := fuel_s (Nat.lt_of_le_of_lt (Nat.zero_le _) hf)
    have e := ih (i + 1) f (by omega) (by omega)
    rw [b10_s] at e
    rw [bi4_s]
    unfold sX9_bits_b4
    rw [if_neg (show ¬ (10 : Int32) ≤ nI i from nI_ge (b := 10) (by omega) (by omega)), bnd_eq, nI_1]
    exact e
theorem p_bits (x : Int32) (m : pMem) : sX9_bits x m = some (b10 x 10) := l_bits x m 10 0 5000 (by omega) (by omega)
section HG
variable {m : pMem} {c g l p w v b : Nat}
theorem bS_lo (h : IH m c g l) (hP : IQ m c g l p w v) {i : Nat} (hi : i < p) (d e x y : Int32) : ∃ k, k < 1024 ∧ bS m c l w v i d x ^^^ bS m c l w v i e y = nI k := low10 (fun j h1 h2 => by
  have hl := h.lle
  rw [b_xor, bS_hi h hP hi d x (by omega) h2, bS_hi h hP hi e y (by omega) h2]
  rfl)
theorem bits_x (h : IH m c g l) (hP : IQ m c g l p w v) {i : Nat} (hi : i < p) (d e x y : Int32) : b10 (bS m c l w v i d x ^^^ bS m c l w v i e y) 10 = bc (bS m c l w v i d x ^^^ bS m c l w v i e y) := by
  obtain ⟨k, hk, ek⟩ := bS_lo h hP hi d e x y
  rw [ek, bc_b10 k hk]
/-- on a day, from another on: the turns of the first n pacts -/
def tnS (m : pMem) (c l w v q e : Nat) : Nat → Int32
  | 0 => 0
  | n + 1 => tnS m c l w v q e n + bc (bS m c l w v n (nI q) 0 ^^^ bS m c l w v n (nI e) 0)
theorem tnS_s (m : pMem) (c l w v q e n : Nat) : tnS m c l w v q e (n + 1) = tnS m c l w v q e n + bc (bS m c l w v n (nI q) 0 ^^^ bS m c l w v n (nI e) 0) := rfl
theorem tnS_r (h : IH m c g l) (hP : IQ m c g l p w v) (q e : Nat) : ∀ n, n ≤ p → ∃ k, k ≤ 10 * n ∧ tnS m c l w v q e n = nI k
  | 0, _ => ⟨0, by omega, rfl⟩
  | n + 1, hn => by
    obtain ⟨k, hk, ek⟩ := tnS_r h hP q e n (by omega)
    obtain ⟨j, hj, ej⟩ := bS_lo h hP (i := n) (by omega) (nI q) (nI e) 0 0
    obtain ⟨r1, r2⟩ := bc_r j hj
    obtain ⟨t, ht, et⟩ := nI_of r1
    rw [et] at r2
    have t11 : t < 11 := (lt_iff ht (b := 11) (by omega)).mp r2
    exact ⟨k + t, by omega, by rw [tnS_s, ek, ej, et, nI_add]⟩
theorem tnS_0 {q e : Nat} : ∀ {n : Nat}, (∀ i, i < n → bS m c l w v i (nI q) 0 = bS m c l w v i (nI e) 0) → tnS m c l w v q e n = 0
  | 0, _ => rfl
  | n + 1, h => by
    rw [tnS_s, tnS_0 (fun i hi => h i (by omega)), h n (by omega), x_self]
    decide
/-- the day with most -/
def hF (T : Nat → Int32) : Nat → Nat → Int32 → Int32 → Int32
  | 0, _, x, _ => x
  | j + 1, q, x, o => if T q ≤ o then hF T j (q + 1) x o else hF T j (q + 1) (nI q) (T q)
theorem hF_s (T : Nat → Int32) (j q : Nat) (x o : Int32) : hF T (j + 1) q x o = if T q ≤ o then hF T j (q + 1) x o else hF T j (q + 1) (nI q) (T q) := rfl
def lmF (T : Nat → Int32) : Nat → Nat → Int32 → Int32
  | 0, _, x => x
  | j + 1, q, _ => lmF T j (q + 1) (T q)
theorem lmF_s (T : Nat → Int32) (j q : Nat) (x : Int32) : lmF T (j + 1) q x = lmF T j (q + 1) (T q) := rfl
/-- turns of a day -/
def tS (m : pMem) (c l w v p q : Nat) : Int32 := tnS m c l w v q (q - 1) p
theorem h66_s (k54 : Int32 → Int32 → Int32 → Int32 → Int32 → Int32 → pMem → gO) (f : Nat) : sX9_hangs_l66 k54 (f + 1) = sX9_hangs_b66 k54 (sX9_hangs_l66 k54 f) := rfl
theorem h54_s (f : Nat) : sX9_hangs_l54 (f + 1) = sX9_hangs_b54 (sX9_hangs_l54 f) := rfl
theorem fb_s (f : Nat) : sX9_findBound_l2 (f + 1) = sX9_findBound_b2 (sX9_findBound_l2 f) := rfl
theorem st1_at (m : pMem) (k j x : Nat) (y : Int32) : (st1 m k j y).1 k x = if x = j then y else m.1 k x := by
  rw [st1_1, if_pos rfl]
  rfl
theorem st1_ne (m : pMem) (k j : Nat) (y : Int32) {q : Nat} (h : q ≠ k) : (st1 m k j y).1 q = m.1 q := by
  rw [st1_1, if_neg h]
theorem l_fb (h : IH m c g l) (hP : IQ m c g l p w v) {q : Nat} (hq : q ≤ 999) : ∀ (j n f : Nat), n + j = p → j < f → ∀ μ, fr m μ → μ.1 9 38 = 0 → (∀ x, x < n → μ.1 94 x = bS m c l w v x (nI q) 0) → ∃ ν, sX9_findBound_l2 f (nI q) (nI n) μ = some (0, ν) ∧ fr m ν ∧ ν.1 9 38 = 0 ∧ ∀ x, x < p → ν.1 94 x = bS m c l w v x (nI q) 0 := by
  have hp := hP.ple
  intro j
  induction j with
  | zero =>
    intro n f hij hf μ F e hx
    obtain ⟨f, rfl⟩ := fuel_s (Nat.lt_of_le_of_lt (Nat.zero_le _) hf)
    have : n = p := by omega
    subst this
    refine ⟨μ, ?_, F, e, hx⟩
    rw [fb_s]
    unfold sX9_findBound_b2
    rw [(F.Q hP).p9, if_pos (nI_le (Nat.le_refl _) (by omega))]
  | succ j ih =>
    intro n f hij hf μ F e hx
    obtain ⟨f, rfl⟩ := fuel_s (Nat.lt_of_le_of_lt (Nat.zero_le _) hf)
    obtain ⟨μ1, e1, f1, s1⟩ := k_of h hP F (show n < p by omega) hq e
    obtain ⟨ν, y1, y2, y3, y4⟩ := ih (n + 1) f (by omega) (by omega) (st1 μ1 94 n (bS m c l w v n (nI q) 0)) (f1.tr (fr.st μ1 n _ (by omega))) (by rw [st1_ne _ _ _ _ (by omega), s1 9 (by omega)]; exact e) (fun x hx2 => by
      rw [st1_at]
      by_cases z : x = n
      · rw [if_pos z, z]
      · rw [if_neg z, s1 94 (by omega)]
        exact hx x (by omega))
    refine ⟨ν, ?_, y2, y3, y4⟩
    rw [fb_s]
    unfold sX9_findBound_b2
    rw [(F.Q hP).p9, if_neg (nI_ge (by omega) (by omega)), e1, cbE_some, if_neg (noob (by omega) (by omega)), nI_clamp (by omega), bnd_eq, nI_1]
    exact y1
theorem l_h66 (h : IH m c g l) (hP : IQ m c g l p w v) {q e : Nat} (hq : q ≤ 999) (k54 : Int32 → Int32 → Int32 → Int32 → Int32 → Int32 → pMem → gO) (l1 l2 l3 l4 : Int32) : ∀ (j n f : Nat), n + j = p → j < f → ∀ μ, fr m μ → μ.1 9 38 = 0 → (∀ x, x < p → μ.1 94 x = if x < n then bS m c l w v x (nI q) 0 else bS m c l w v x (nI e) 0) → ∃ ν, sX9_hangs_l66 k54 f l1 l2 l3 l4 (tnS m c l w v q e n) (nI q) (nI n) μ = k54 l1 l2 (if tnS m c l w v q e p ≤ l4 then l3 else nI q) (if tnS m c l w v q e p ≤ l4 then l4 else tnS m c l w v q e p) (tnS m c l w v q e p) (nI (q + 1)) ν ∧ fr m ν ∧ ν.1 9 38 = 0 ∧ ∀ x, x < p → ν.1 94 x = bS m c l w v x (nI q) 0 := by
  have hp := hP.ple
  intro j
  induction j with
  | zero =>
    intro n f hij hf μ F e0 hx
    obtain ⟨f, rfl⟩ := fuel_s (Nat.lt_of_le_of_lt (Nat.zero_le _) hf)
    have : n = p := by omega
    subst this
    refine ⟨μ, ?_, F, e0, fun x z => by rw [hx x z, if_pos z]⟩
    rw [h66_s]
    unfold sX9_hangs_b66 sX9_hangs_b131 sX9_hangs_b146
    rw [(F.Q hP).p9, if_pos (nI_le (Nat.le_refl _) (by omega)), nI_1]
    by_cases z : tnS m c l w v q e n ≤ l4
    · simp only [if_pos z]
    · simp only [if_neg z]
  | succ j ih =>
    intro n f hij hf μ F e0 hx
    obtain ⟨f, rfl⟩ := fuel_s (Nat.lt_of_le_of_lt (Nat.zero_le _) hf)
    have hn : n < p := by omega
    obtain ⟨μ1, e1, f1, s1⟩ := k_of h hP F hn hq e0
    obtain ⟨ν, y1, y2, y3, y4⟩ := ih (n + 1) f (by omega) (by omega) (st1 μ1 94 n (bS m c l w v n (nI q) 0)) (f1.tr (fr.st μ1 n _ (by omega))) (by rw [st1_ne _ _ _ _ (by omega), s1 9 (by omega)]; exact e0) (fun x hx2 => by
      rw [st1_at]
      by_cases z : x = n
      · rw [if_pos z, if_pos (by omega), z]
      · rw [if_neg z, s1 94 (by omega), hx x hx2]
        by_cases z2 : x < n
        · rw [if_pos z2, if_pos (by omega)]
        · rw [if_neg z2, if_neg (by omega)])
    refine ⟨ν, ?_, y2, y3, y4⟩
    rw [tnS_s] at y1
    rw [h66_s]
    unfold sX9_hangs_b66
    rw [(F.Q hP).p9, if_neg (nI_ge (by omega) (by omega)), e1, cbE_some]
    simp only [if_neg (noob (i := n) (n := 12) (by omega) (by omega)), nI_clamp (show n < 2 ^ 31 by omega)]
    rw [s1 94 (by omega), hx n hn, if_neg (Nat.lt_irrefl n), p_bits, cbR_some, bnd_eq, bnd_eq, nI_1, bits_x h hP hn]
    exact y1
theorem l_h54 (h : IH m c g l) (hP : IQ m c g l p w v) {d : Nat} (hd : d ≤ 999) (l2 : Int32) : ∀ (j q f : Nat), q + j = d + 1 → 1 ≤ q → j < f → ∀ (x o y : Int32) μ, fr m μ → μ.1 9 38 = 0 → (∀ x, x < p → μ.1 94 x = bS m c l w v x (nI (q - 1)) 0) → ∃ ν, sX9_hangs_l54 f (nI d) l2 x o y (nI q) μ = some (if ¬ l2 = 0 then hF (tS m c l w v p) j q x o else lmF (tS m c l w v p) j q y, ν) ∧ fr m ν ∧ ν.1 9 38 = 0 := by
  have hp := hP.ple
  intro j
  induction j with
  | zero =>
    intro q f hij h1 hf x o y μ F e0 hx
    obtain ⟨f, rfl⟩ := fuel_s (Nat.lt_of_le_of_lt (Nat.zero_le _) hf)
    refine ⟨μ, ?_, F, e0⟩
    rw [h54_s]
    unfold sX9_hangs_b54 sX9_hangs_b164
    rw [if_pos (show nI d < nI q from nI_lt (by omega) (by omega))]
    by_cases z : l2 = 0
    · rw [if_neg (not_not_intro z), if_neg (not_not_intro z)]
      rfl
    · rw [if_pos z, if_pos z]
      rfl
  | succ j ih =>
    intro q f hij h1 hf x o y μ F e0 hx
    obtain ⟨f, rfl⟩ := fuel_s (Nat.lt_of_le_of_lt (Nat.zero_le _) hf)
    obtain ⟨ν, y1, y2, y3, y4⟩ := l_h66 h hP (q := q) (e := q - 1) (by omega) (sX9_hangs_l54 f) (nI d) l2 x o p 0 5000 (by omega) (by omega) μ F e0 (fun x z => by rw [if_neg (Nat.not_lt_zero x)]; exact hx x z)
    obtain ⟨ξ, z1, z2, z3⟩ := ih (q + 1) f (by omega) (by omega) (by omega) (if tS m c l w v p q ≤ o then x else nI q) (if tS m c l w v p q ≤ o then o else tS m c l w v p q) (tS m c l w v p q) ν y2 y3 (by rw [Nat.add_sub_cancel]; exact y4)
    refine ⟨ξ, ?_, z2, z3⟩
    rw [h54_s]
    unfold sX9_hangs_b54
    rw [if_neg (show ¬ nI d < nI q from nI_nlt (by omega) (by omega))]
    refine (y1.trans z1).trans ?_
    rw [hF_s, lmF_s]
    by_cases z : tS m c l w v p q ≤ o
    · simp only [if_pos z]
    · simp only [if_neg z]
end HG
