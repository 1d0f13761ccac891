/-! small predicates of both systems -/
/-- a number below n -/
abbrev inN (a : Int32) (n : Nat) : Prop := ¬ a < 0 ∧ ¬ nI n ≤ a
theorem inN_iff {a : Int32} {n : Nat} (hn : n < 2 ^ 31) : inN a n ↔ ∃ k, k < n ∧ a = nI k := by
  constructor
  · rintro ⟨h0, h1⟩
    obtain ⟨j, hj, rfl⟩ := nI_of h0
    exact ⟨j, Nat.lt_of_not_le fun q => h1 (nI_le q hj), rfl⟩
  · rintro ⟨k, hk, rfl⟩
    exact ⟨nI_pos (by omega), nI_ge hk hn⟩
theorem nI_m1 {n : Nat} (h : 0 < n) : nI n - 1 = nI (n - 1) := by
  obtain ⟨k, rfl⟩ : ∃ k, n = k + 1 := ⟨n - 1, by omega⟩
  exact nI_pred k
theorem inR_inN {a : Int32} {n : Nat} (hn : n < 2 ^ 31) : inR a 0 (nI n - 1) ↔ inN a n := by
  rcases Nat.eq_zero_or_pos n with rfl | h
  · constructor
    · rintro ⟨h0, h1⟩
      obtain ⟨j, hj, rfl⟩ := nI_of h0
      exact absurd (show nI 0 - 1 < nI j from by rw [Int32.lt_iff_toInt_lt, nI_toInt hj]; show (-1 : Int) < _; omega) h1
    · rintro ⟨h0, h1⟩
      exact absurd (show nI 0 ≤ a from by
        obtain ⟨j, hj, rfl⟩ := nI_of h0
        exact nI_le (Nat.zero_le _) hj) h1
  · rw [nI_m1 h, inN_iff hn]
    constructor
    · intro q
      obtain ⟨k, hk, rfl⟩ := inR_nat (by omega) q
      exact ⟨k, by omega, rfl⟩
    · rintro ⟨k, hk, rfl⟩
      exact inR_nI (by omega) (by omega)
theorem p_in (a lo hi : Int32) (m : pMem) : sX9_in a lo hi m = some (bI (inR a lo hi)) := by
  unfold sX9_in sX9_in_b14 sX9_in_b15 bI
  by_cases h1 : a < lo
  · simp [h1, nar0]
  · by_cases h2 : hi < a
    · simp [h1, h2, nar0]
    · simp [h1, h2, nar1]
theorem p_day9 (a : Int32) (m : pMem) : sX9_isDay a m = some (bI (inR a 0 999)) := by
  unfold sX9_isDay
  rw [p_in, cbR_some, nar_bI]
theorem p_third9 (a : Int32) (m : pMem) : sX9_isThird a m = some (bI (inR a 0 5)) := by
  unfold sX9_isThird
  rw [p_in, cbR_some, nar_bI]
theorem p_ground9 {n : Nat} (hn : n < 2 ^ 31) (a : Int32) (m : pMem) (h : m.1 9 0 = nI n) : sX9_isGround a m = some (bI (inN a n)) := by
  unfold sX9_isGround
  rw [p_in, cbR_some, nar_bI, h, bI_congr (inR_inN hn)]
theorem p_land9 {n : Nat} (hn : n < 2 ^ 31) (a : Int32) (m : pMem) (h : m.1 9 3 = nI n) : sX9_isLand a m = some (bI (inN a n)) := by
  unfold sX9_isLand
  rw [p_in, cbR_some, nar_bI, h, bI_congr (inR_inN hn)]
theorem p_pact9 {n : Nat} (hn : n < 2 ^ 31) (a : Int32) (m : pMem) (h : m.1 9 26 = nI n) : sX9_isPact a m = some (bI (inN a n)) := by
  unfold sX9_isPact
  rw [p_in, cbR_some, nar_bI, h, bI_congr (inR_inN hn)]
theorem p_day8 (a : Int32) (m : pMem) : sX8_isDay a m = some (bI (inR a 0 999)) := by
  unfold sX8_isDay sX8_isDay_b15 sX8_isDay_b16 bI
  by_cases h1 : a < 0
  · simp [h1, nar0]
  · by_cases h2 : (999 : Int32) < a
    · simp [h1, h2, nar0]
    · simp [h1, h2, nar1]
theorem lt6 (a : Int32) : (6 : Int32) ≤ a ↔ (5 : Int32) < a := by
  rw [Int32.le_iff_toInt_le, Int32.lt_iff_toInt_lt]
  show (6 : Int) ≤ _ ↔ (5 : Int) < _
  omega
theorem p_third8 (a : Int32) (m : pMem) : sX8_isThird a m = some (bI (inR a 0 5)) := by
  unfold sX8_isThird sX8_isThird_b14 sX8_isThird_b15 bI
  by_cases h1 : a < 0
  · simp [h1, nar0]
  · by_cases h2 : (5 : Int32) < a
    · simp [h1, (lt6 a).mpr h2, h2, nar0]
    · simp [h1, h2, mt (lt6 a).mp h2, nar1]
theorem p_know (a x : Int32) : (if a < 0 then some (vp_nar .boolean 0) else if x ≤ a then some (vp_nar .boolean 0) else some (vp_nar .boolean 1)) = some (bI (¬ a < 0 ∧ ¬ x ≤ a)) := by
  unfold bI
  by_cases h1 : a < 0
  · simp [h1, nar0]
  · by_cases h2 : x ≤ a
    · simp [h1, h2, nar0]
    · simp [h1, h2, nar1]
theorem p_land2 {n : Nat} (a : Int32) (m : pMem) (h : m.1 3 6 = nI n) : sX2_knowsLand a m = some (bI (inN a n)) := by
  unfold sX2_knowsLand sX2_knowsLand_b16 sX2_knowsLand_b17
  rw [p_know, h]
theorem p_ground2 {n : Nat} (a : Int32) (m : pMem) (h : m.1 3 2 = nI n) : sX2_knowsGround a m = some (bI (inN a n)) := by
  unfold sX2_knowsGround sX2_knowsGround_b16 sX2_knowsGround_b17
  rw [p_know, h]
theorem p_pact3 {n : Nat} (a : Int32) (m : pMem) (h : m.1 4 8 = nI n) : sX3_knowsPact a m = some (bI (inN a n)) := by
  unfold sX3_knowsPact sX3_knowsPact_b16 sX3_knowsPact_b17
  rw [p_know, h]
theorem p_debt1 {n : Nat} (a : Int32) (m : pMem) (h : m.1 2 5 = nI n) : sX1_knowsDebt a m = some (bI (inN a n)) := by
  unfold sX1_knowsDebt sX1_knowsDebt_b16 sX1_knowsDebt_b17
  rw [p_know, h]
theorem p_thing1 {n : Nat} (a : Int32) (m : pMem) (h : m.1 2 10 = nI n) : sX1_knowsThing a m = some (bI (inN a n)) := by
  unfold sX1_knowsThing sX1_knowsThing_b16 sX1_knowsThing_b17
  rw [p_know, h]
theorem p_pens4 {n : Nat} (a : Int32) (m : pMem) (h : m.1 5 3 = nI n) : sX4_knowsPensioner a m = some (bI (inN a n)) := by
  unfold sX4_knowsPensioner sX4_knowsPensioner_b16 sX4_knowsPensioner_b17
  rw [p_know, h]
theorem p_isIn (x : Int32) {n : Nat} (hn : n < 31) (m : pMem) : sX8_isIn x (nI n) m = some (bI (bt x n = true)) := by
  unfold sX8_isIn sX8_isIn_b13 bI
  rw [b_ask x n hn]
  cases bt x n <;> simp [nar0, nar1]
