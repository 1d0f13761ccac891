/-! the law: every call is answered alike -/
theorem two_E {o8 : gO} {f9 : pMem → gO} {k : pMem → gO} (h : ∃ r m1 m2, o8 = some (r, m1) ∧ f9 m1 = some (r, m2) ∧ Inv m2) (hk : ∀ m2, Inv m2 → ∃ z, k m2 = some (1, z)) : ∃ z, (cbE o8 fun r m1 => cbE (f9 m1) fun r' m2 => if r = r' then k m2 else some (0, m2)) = some (1, z) := by
  obtain ⟨r, m1, m2, e1, e2, e3⟩ := h
  obtain ⟨z, hz⟩ := hk m2 e3
  exact ⟨z, by rw [e1, cbE_some, e2, cbE_some, if_pos rfl]; exact hz⟩
theorem two_R {m : pMem} {o8 o9 : Option Int32} {k : pMem → gO} (I : Inv m) (h : ∃ r, o8 = some r ∧ o9 = some r) (hk : ∀ m2, Inv m2 → ∃ z, k m2 = some (1, z)) : ∃ z, (cbR o8 fun r => cbR o9 fun r' => if r = r' then k m else some (0, m)) = some (1, z) := by
  obtain ⟨r, e1, e2⟩ := h
  obtain ⟨z, hz⟩ := hk m I
  exact ⟨z, by rw [e1, cbR_some, e2, cbR_some, if_pos rfl]; exact hz⟩
theorem p_step {L x : Nat} {xs : Nat → Int32} (hL : L ≤ 3072) (hx : x + 6 ≤ L) {k18 : Int32 → pMem → gO} {m : pMem} (I : Inv m) (hk : ∀ m2, Inv m2 → ∃ z, sL_law_b1288 L xs k18 (nI x) m2 = some (1, z)) : ∃ z, sL_law_b18 L xs k18 (nI x) m = some (1, z) := by
  have o0 : ¬ oob (nI x) L := noob (by omega) (by omega)
  have o1 : ¬ oob (nI x + (1 : Int32)) L := by rw [show nI x + (1 : Int32) = nI (x + 1) from nI_add x 1]; exact noob (by omega) (by omega)
  have o2 : ¬ oob (nI x + (2 : Int32)) L := by rw [show nI x + (2 : Int32) = nI (x + 2) from nI_add x 2]; exact noob (by omega) (by omega)
  have o3 : ¬ oob (nI x + (3 : Int32)) L := by rw [show nI x + (3 : Int32) = nI (x + 3) from nI_add x 3]; exact noob (by omega) (by omega)
  have o4 : ¬ oob (nI x + (4 : Int32)) L := by rw [show nI x + (4 : Int32) = nI (x + 4) from nI_add x 4]; exact noob (by omega) (by omega)
  have o5 : ¬ oob (nI x + (5 : Int32)) L := by rw [show nI x + (5 : Int32) = nI (x + 5) from nI_add x 5]; exact noob (by omega) (by omega)
  unfold sL_law_b18
  rw [if_neg (show ¬ Int32.ofNat L - (6 : Int32) < nI x from fun z => by
    rw [Int32.lt_iff_toInt_lt, show (Int32.ofNat L - (6 : Int32)).toInt = (L : Int) - (6 : Nat) from sub_int (a := L) (b := 6) (by omega) (by omega), nI_toInt (by omega)] at z
    omega), if_neg o0]
  by_cases c0 : xs (nI x).toNatClampNeg &&& (31 : Int32) = 0
  · rw [if_pos c0]
    simp only [if_neg o1, if_neg o2]
    exact two_E (q_ground I _ _) hk
  rw [if_neg c0]
  by_cases c1 : xs (nI x).toNatClampNeg &&& (31 : Int32) = 1
  · rw [if_pos c1]
    simp only [if_neg o1, if_neg o2, if_neg o3, if_neg o4, if_neg o5]
    exact two_E (q_change I _ _ _ _ _) hk
  rw [if_neg c1]
  by_cases c2 : xs (nI x).toNatClampNeg &&& (31 : Int32) = 2
  · rw [if_pos c2]
    simp only [if_neg o1]
    exact two_R I (q_lands I _) hk
  rw [if_neg c2]
  by_cases c3 : xs (nI x).toNatClampNeg &&& (31 : Int32) = 3
  · rw [if_pos c3]
    simp only [if_neg o1, if_neg o2]
    exact two_R I (q_has I _ _) hk
  rw [if_neg c3]
  by_cases c4 : xs (nI x).toNatClampNeg &&& (31 : Int32) = 4
  · rw [if_pos c4]
    simp only [if_neg o1, if_neg o2]
    exact two_R I (q_whose I _ _) hk
  rw [if_neg c4]
  by_cases c5 : xs (nI x).toNatClampNeg &&& (31 : Int32) = 5
  · rw [if_pos c5]
    simp only [if_neg o1, if_neg o2]
    exact two_R I (q_from I _ _) hk
  rw [if_neg c5]
  by_cases c6 : xs (nI x).toNatClampNeg &&& (31 : Int32) = 6
  · rw [if_pos c6]
    simp only [if_neg o1, if_neg o2]
    exact two_R I (q_heir I _ _) hk
  rw [if_neg c6]
  by_cases c7 : xs (nI x).toNatClampNeg &&& (31 : Int32) = 7
  · rw [if_pos c7]
    simp only [if_neg o1, if_neg o2, if_neg o3]
    exact two_E (q_write I _ _) hk
  rw [if_neg c7]
  by_cases c8 : xs (nI x).toNatClampNeg &&& (31 : Int32) = 8
  · rw [if_pos c8]
    exact two_E (q_erase I) hk
  rw [if_neg c8]
  by_cases c9 : xs (nI x).toNatClampNeg &&& (31 : Int32) = 9
  · rw [if_pos c9]
    exact two_E (q_fault I) hk
  rw [if_neg c9]
  by_cases c10 : xs (nI x).toNatClampNeg &&& (31 : Int32) = 10
  · rw [if_pos c10]
    exact two_E (q_rules I) hk
  rw [if_neg c10]
  by_cases c11 : xs (nI x).toNatClampNeg &&& (31 : Int32) = 11
  · rw [if_pos c11]
    simp only [if_neg o1]
    exact two_R I (q_rule I _) hk
  rw [if_neg c11]
  by_cases c12 : xs (nI x).toNatClampNeg &&& (31 : Int32) = 12
  · rw [if_pos c12]
    simp only [if_neg o1, if_neg o2, if_neg o3, if_neg o4, if_neg o5]
    exact two_E (q_pact I _ _ _ _ _) hk
  rw [if_neg c12]
  by_cases c13 : xs (nI x).toNatClampNeg &&& (31 : Int32) = 13
  · rw [if_pos c13]
    unfold sL_law_b623 sL_law_b636 sL_law_b668 sL_law_b681
    by_cases y3 : xs (nI x + (3 : Int32)).toNatClampNeg = 0
    · by_cases y4 : xs (nI x + (4 : Int32)).toNatClampNeg = 0
      · simp only [if_neg o1, if_neg o2, if_neg o3, if_neg o4, if_neg o5, if_pos y3, if_pos y4]
        exact two_E (q_word I _ _ _ _ _ (Or.inl rfl) (Or.inl rfl)) hk
      · simp only [if_neg o1, if_neg o2, if_neg o3, if_neg o4, if_neg o5, if_pos y3, if_neg y4]
        exact two_E (q_word I _ _ _ _ _ (Or.inl rfl) (Or.inr rfl)) hk
    · by_cases y4 : xs (nI x + (4 : Int32)).toNatClampNeg = 0
      · simp only [if_neg o1, if_neg o2, if_neg o3, if_neg o4, if_neg o5, if_neg y3, if_pos y4]
        exact two_E (q_word I _ _ _ _ _ (Or.inr rfl) (Or.inl rfl)) hk
      · simp only [if_neg o1, if_neg o2, if_neg o3, if_neg o4, if_neg o5, if_neg y3, if_neg y4]
        exact two_E (q_word I _ _ _ _ _ (Or.inr rfl) (Or.inr rfl)) hk
  rw [if_neg c13]
  by_cases c14 : xs (nI x).toNatClampNeg &&& (31 : Int32) = 14
  · rw [if_pos c14]
    unfold sL_law_b718 sL_law_b750
    by_cases y3 : xs (nI x + (3 : Int32)).toNatClampNeg = 0
    · simp only [if_neg o1, if_neg o2, if_neg o3, if_neg o4, if_pos y3]
      exact two_E (q_voice I _ _ _ _ (Or.inl rfl)) hk
    · simp only [if_neg o1, if_neg o2, if_neg o3, if_neg o4, if_neg y3]
      exact two_E (q_voice I _ _ _ _ (Or.inr rfl)) hk
  rw [if_neg c14]
  by_cases c15 : xs (nI x).toNatClampNeg &&& (31 : Int32) = 15
  · rw [if_pos c15]
    simp only [if_neg o1, if_neg o2]
    exact two_E (q_bound I _ _) hk
  rw [if_neg c15]
  by_cases c16 : xs (nI x).toNatClampNeg &&& (31 : Int32) = 16
  · rw [if_pos c16]
    simp only [if_neg o1, if_neg o2]
    exact two_E (q_since I _ _) hk
  rw [if_neg c16]
  by_cases c17 : xs (nI x).toNatClampNeg &&& (31 : Int32) = 17
  · rw [if_pos c17]
    simp only [if_neg o1, if_neg o2, if_neg o3, if_neg o4]
    exact two_E (q_debt I _ _ _ _) hk
  rw [if_neg c17]
  by_cases c18 : xs (nI x).toNatClampNeg &&& (31 : Int32) = 18
  · rw [if_pos c18]
    simp only [if_neg o1, if_neg o2, if_neg o3]
    exact two_E (q_owes I _ _ _) hk
  rw [if_neg c18]
  by_cases c19 : xs (nI x).toNatClampNeg &&& (31 : Int32) = 19
  · rw [if_pos c19]
    simp only [if_neg o1, if_neg o2, if_neg o3]
    exact two_E (q_thing I _ _ _) hk
  rw [if_neg c19]
  by_cases c20 : xs (nI x).toNatClampNeg &&& (31 : Int32) = 20
  · rw [if_pos c20]
    simp only [if_neg o1, if_neg o2, if_neg o3]
    exact two_E (q_owns I _ _ _) hk
  rw [if_neg c20]
  by_cases c21 : xs (nI x).toNatClampNeg &&& (31 : Int32) = 21
  · rw [if_pos c21]
    simp only [if_neg o1, if_neg o2, if_neg o3]
    exact two_E (q_served I _ _ _) hk
  rw [if_neg c21]
  by_cases c22 : xs (nI x).toNatClampNeg &&& (31 : Int32) = 22
  · rw [if_pos c22]
    simp only [if_neg o1, if_neg o2]
    exact two_R I (q_paid I _ _) hk
  rw [if_neg c22]
  by_cases c23 : xs (nI x).toNatClampNeg &&& (31 : Int32) = 23
  · rw [if_pos c23]
    simp only [if_neg o1, if_neg o2]
    exact two_E (q_hangs I _ _) hk
  rw [if_neg c23]
  by_cases c24 : xs (nI x).toNatClampNeg &&& (31 : Int32) = 24
  · rw [if_pos c24]
    unfold sL_law_b1149 sL_law_b1181
    by_cases y4 : xs (nI x + (4 : Int32)).toNatClampNeg = 0
    · simp only [if_neg o1, if_neg o2, if_neg o3, if_neg o4, if_pos y4]
      exact two_E (q_without I _ _ _ _) hk
    · simp only [if_neg o1, if_neg o2, if_neg o3, if_neg o4, if_neg y4]
      exact two_E (q_without I _ _ _ _) hk
  rw [if_neg c24]
  by_cases c25 : xs (nI x).toNatClampNeg &&& (31 : Int32) = 25
  · rw [if_pos c25]
    simp only [if_neg o1, if_neg o2, if_neg o3]
    exact two_E (q_burden I _ _ _) hk
  rw [if_neg c25]
  by_cases c26 : xs (nI x).toNatClampNeg &&& (31 : Int32) = 26
  · rw [if_pos c26]
    simp only [if_neg o1, if_neg o2]
    exact two_E (q_best I _ _) hk
  rw [if_neg c26]
  by_cases c27 : xs (nI x).toNatClampNeg &&& (31 : Int32) = 27
  · rw [if_pos c27]
    simp only [if_neg o1]
    exact two_R I (q_count I _) hk
  rw [if_neg c27]
  exact hk m I
theorem lw18_s (L : Nat) (xs : Nat → Int32) (f : Nat) : sL_law_l18 L xs (f + 1) = sL_law_b18 L xs (sL_law_l18 L xs f) := rfl
theorem l_law {L : Nat} {xs : Nat → Int32} (hL : L ≤ 3072) : ∀ (j x f : Nat), x + 6 * j ≤ L → L < x + 6 * j + 6 → j < f → ∀ m, Inv m → ∃ z, sL_law_l18 L xs f (nI x) m = some (1, z) := by
  intro j
  induction j with
  | zero =>
    intro x f h1 h2 hf m I
    obtain ⟨f, rfl⟩ := fuel_s (Nat.lt_of_le_of_lt (Nat.zero_le _) hf)
    refine ⟨m, ?_⟩
    rw [lw18_s]
    unfold sL_law_b18
    rw [if_pos (show Int32.ofNat L - (6 : Int32) < nI x from by
      rw [Int32.lt_iff_toInt_lt, show (Int32.ofNat L - (6 : Int32)).toInt = (L : Int) - (6 : Nat) from sub_int (a := L) (b := 6) (by omega) (by omega), nI_toInt (by omega)]
      omega)]
  | succ j ih =>
    intro x f h1 h2 hf m I
    obtain ⟨f, rfl⟩ := fuel_s (Nat.lt_of_le_of_lt (Nat.zero_le _) hf)
    rw [lw18_s]
    refine p_step hL (by omega) I (fun m2 I2 => ?_)
    unfold sL_law_b1288
    rw [show nI x + (6 : Int32) = nI (x + 6) from nI_add x 6]
    exact ih (x + 6) f (by omega) (by omega) (by omega) m2 I2
theorem law_one {L : Nat} {xs : Nat → Int32} (hL : L ≤ 3072) : ∃ z, sL_law_l18 L xs 5000 0 m0 = some (1, z) := l_law hL (L / 6) 0 5000 (by omega) (by omega) (by omega) m0 Inv_0
