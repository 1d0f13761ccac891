/-! marks of days -/
theorem k_sh : ∀ k, k ≤ 999 → nI k >>> ((6 : Int32) &&& 31) = nI (k / 64) := by decide +kernel
theorem k_an : ∀ k, k ≤ 999 → nI k &&& (63 : Int32) = nI (k % 64) := by decide +kernel
theorem k_l : ∀ k, k < 64 → ((nI k).toInt64 &&& 63) = lN k := by decide +kernel
theorem k_one : ∀ j, j < 64 → ((1 : Int64) <<< lN j).toBitVec = BitVec.twoPow 64 j := by decide +kernel
theorem k_sm : ∀ j, j < 64 → ((lN j).toBitVec.smod 64).toNat = j := by decide +kernel
theorem l_0bit : ∀ i, i < 64 → ((1 : Int64).toBitVec).getLsbD i = decide (i = 0) := by decide +kernel
theorem l_ask (x : Int64) {j : Nat} (hj : j < 64) : (x >>> lN j) &&& (1 : Int64) = 0 ↔ x.toBitVec.getLsbD j = false := by
  have hb : ((x >>> lN j) &&& (1 : Int64)).toBitVec.getLsbD 0 = x.toBitVec.getLsbD j := by
    rw [Int64.toBitVec_and, BitVec.getLsbD_and, Int64.toBitVec_shiftRight]
    show ((x.toBitVec.sshiftRight ((lN j).toBitVec.smod 64).toNat).getLsbD 0 && _) = _
    rw [k_sm j hj, BitVec.getLsbD_sshiftRight, l_0bit 0 (by omega)]
    simp [hj]
  constructor
  · intro h
    rw [h] at hb
    rw [← hb]
    exact BitVec.getLsbD_zero
  · intro h
    apply Int64.toBitVec_inj.mp
    apply BitVec.eq_of_getLsbD_eq
    intro i hi
    by_cases e : i = 0
    · subst e
      rw [hb, h]
      exact BitVec.getLsbD_zero.symm
    · rw [Int64.toBitVec_and, BitVec.getLsbD_and, l_0bit i hi]
      simp only [e, decide_false, Bool.and_false]
      exact BitVec.getLsbD_zero.symm
theorem cmp0 (x : Int64) : lg_cmp x 0 = 0 ↔ x = 0 := by
  unfold lg_cmp
  by_cases h1 : (0 : Int64) < x
  · rw [if_pos h1]
    exact ⟨fun q => absurd q (by decide), fun q => by rw [q] at h1; exact absurd h1 (by decide)⟩
  · rw [if_neg h1]
    by_cases h2 : x = 0
    · rw [if_pos h2]; exact ⟨fun _ => h2, fun _ => rfl⟩
    · rw [if_neg h2]; exact ⟨fun q => absurd q (by decide), fun q => absurd q h2⟩
theorem p_isMarked {m : pMem} {k : Nat} (hk : k ≤ 999) [Decidable (mkd m k)] : sX0_isMarked (nI k) m = some (bI (mkd m k)) := by
  unfold sX0_isMarked sX0_isMarked_b26
  rw [k_sh k hk, k_an k hk, k_l _ (Nat.mod_lt _ (by decide)), if_neg (noob (by omega) (by omega)), nI_clamp (by omega)]
  by_cases h : mkd m k
  · have h' := h
    unfold mkd at h'
    rw [if_neg (by rw [cmp0, l_ask _ (Nat.mod_lt _ (by decide)), h']; decide), nar1, bI_t h]
  · have h' := h
    unfold mkd at h'
    rw [if_pos (by rw [cmp0, l_ask _ (Nat.mod_lt _ (by decide))]; exact Bool.eq_false_iff.mpr h'), nar0, bI_f h]
/-- the memory with a day marked -/
def mkM (m : pMem) (k : Nat) : pMem := st2 m 10 (k / 64) (m.2 10 (k / 64) ||| ((1 : Int64) <<< lN (k % 64)))
theorem p_mark {m : pMem} {k : Nat} (hk : k ≤ 999) : sX0_mark (nI k) m = some (0, mkM m k) := by
  unfold sX0_mark
  rw [k_sh k hk, k_an k hk, k_l _ (Nat.mod_lt _ (by decide)), if_neg (noob (by omega) (by omega)), if_neg (noob (by omega) (by omega)), nI_clamp (by omega), bnd_eq]
  rfl
theorem mkM_1 (m : pMem) (k : Nat) : (mkM m k).1 = m.1 := rfl
theorem mkM_mk {m : pMem} {k q : Nat} (h : mkd m q) : mkd (mkM m k) q := by
  unfold mkd mkM
  show (vp_updL (m.2 10) (k / 64) _ (q / 64)).toBitVec.getLsbD (q % 64) = true
  unfold vp_updL
  by_cases e : q / 64 = k / 64
  · rw [if_pos e, Int64.toBitVec_or, BitVec.getLsbD_or, ← e]
    unfold mkd at h
    rw [h]; rfl
  · rw [if_neg e]; exact h
theorem mkM_self (m : pMem) (k : Nat) : mkd (mkM m k) k := by
  unfold mkd mkM
  show (vp_updL (m.2 10) (k / 64) _ (k / 64)).toBitVec.getLsbD (k % 64) = true
  unfold vp_updL
  rw [if_pos rfl, Int64.toBitVec_or, BitVec.getLsbD_or, k_one _ (Nat.mod_lt _ (by decide)), BitVec.getLsbD_twoPow]
  simp [Nat.mod_lt k (show 0 < 64 by decide)]
