/-! voices -/
def PV (m : pMem) (t x d : Int32) (i : Nat) : Bool := decide (m.1 89 i = t ∧ m.1 90 i = x ∧ ¬ d < m.1 91 i)
def vV (y : Nat → Int32) : Option Nat → Int32
  | none => 0
  | some i => if y i = 0 then -1 else 1
/-- the voices of the first n thirds -/
def vS (m : pMem) (v : Nat) (x d : Int32) : Nat → Int32
  | 0 => 0
  | n + 1 => vS m v x d n + vV (m.1 92) (lat (PV m (nI n) x d) (m.1 91) v)
theorem vS_s (m : pMem) (v : Nat) (x d : Int32) (n : Nat) : vS m v x d (n + 1) = vS m v x d n + vV (m.1 92) (lat (PV m (nI n) x d) (m.1 91) v) := rfl
theorem v6_s (f : Nat) : sX6_latest_l6 (f + 1) = sX6_latest_b6 (sX6_latest_l6 f) := rfl
theorem v5_s (f : Nat) : sX6_moreYesThanNo_l5 (f + 1) = sX6_moreYesThanNo_b5 (sX6_moreYesThanNo_l5 f) := rfl
theorem r18_s (k5 : Int32 → Int32 → Int32 → Int32 → pMem → Option Int32) (f : Nat) : sX9_isRecognized_l18 k5 (f + 1) = sX9_isRecognized_b18 k5 (sX9_isRecognized_l18 k5 f) := rfl
theorem r5_s (f : Nat) : sX9_isRecognized_l5 (f + 1) = sX9_isRecognized_b5 (sX9_isRecognized_l5 f) := rfl
theorem ixO_ne {x n : Nat} (h : x < n) (hn : n < 100) : ¬ ixO (some x) = -1 := fun y => absurd (show nI x < 0 by rw [show nI x = -1 from y]; decide) (nI_pos (show x < 2 ^ 31 by omega))
section VW
variable {m : pMem} {v : Nat}
theorem l_lat6 (hv : v ≤ 24) (h7 : m.1 7 4 = nI v) (e1 : m.1 55 = m.1 89) (e2 : m.1 56 = m.1 90) (e3 : m.1 58 = m.1 91) (t x d : Int32) : ∀ (j i f : Nat), i + j = v → j < f → sX6_latest_l6 f t x d (ixO (lat (PV m t x d) (m.1 91) i)) (nI i) m = some (ixO (lat (PV m t x d) (m.1 91) v)) := by
  intro j
  induction j with
  | zero =>
    intro i f hij hf
    obtain ⟨f, rfl⟩ := fuel_s (Nat.lt_of_le_of_lt (Nat.zero_le _) hf)
    have : i = v := by omega
    subst this
    rw [v6_s]
    unfold sX6_latest_b6
    rw [h7, if_pos (nI_le (Nat.le_refl _) (by omega))]
  | succ j ih =>
    intro i f hij hf
    obtain ⟨f, rfl⟩ := fuel_s (Nat.lt_of_le_of_lt (Nat.zero_le _) hf)
    have e := ih (i + 1) f (by omega) (by omega)
    rw [lat_s] at e
    rw [v6_s]
    unfold sX6_latest_b6 sX6_latest_b73 sX6_latest_b77
    rw [h7, if_neg (nI_ge (by omega) (by omega)), e1, e2, e3]
    simp only [if_neg (noob (i := i) (n := 24) (by omega) (by omega)), nI_clamp (show i < 2 ^ 31 by omega), nI_1]
    by_cases a1 : m.1 89 i = t
    · rw [if_neg (not_not_intro a1)]
      by_cases a2 : m.1 90 i = x
      · rw [if_neg (not_not_intro a2)]
        by_cases a4 : d < m.1 91 i
        · rw [if_neg (show ¬ PV m t x d i = true by unfold PV; simp [a4])] at e
          rw [if_neg (Int32.not_le.mpr a4)]; exact e
        · rw [if_pos (Int32.not_lt.mp a4)]
          rw [if_pos (show PV m t x d i = true by unfold PV; simp [a1, a2, a4])] at e
          cases hl : lat (PV m t x d) (m.1 91) i with
          | none =>
            rw [hl] at e
            rw [if_pos (show ixO none < 0 by decide)]
            exact e
          | some y =>
            have hy := (lat_lt hl).1
            rw [hl] at e
            have z : ¬ ixO (some y) < 0 := nI_pos (show y < 2 ^ 31 by omega)
            rw [if_neg z]
            show (if oob (nI y) 24 then none else if m.1 91 i < m.1 91 (nI y).toNatClampNeg then _ else _) = _
            rw [if_neg (noob (by omega) (by omega)), nI_clamp (by omega)]
            by_cases a6 : m.1 91 i < m.1 91 y
            · rw [if_pos a6]
              simp only [if_pos a6] at e
              exact e
            · rw [if_neg a6]
              simp only [if_neg a6] at e
              exact e
      · rw [if_neg (show ¬ PV m t x d i = true by unfold PV; simp [a2])] at e
        rw [if_pos a2]; exact e
    · rw [if_neg (show ¬ PV m t x d i = true by unfold PV; simp [a1])] at e
      rw [if_pos a1]; exact e
theorem p_lat6 (hv : v ≤ 24) (h7 : m.1 7 4 = nI v) (e1 : m.1 55 = m.1 89) (e2 : m.1 56 = m.1 90) (e3 : m.1 58 = m.1 91) (t x d : Int32) : sX6_latest t x d m = some (ixO (lat (PV m t x d) (m.1 91) v)) := by
  unfold sX6_latest
  rw [bnd_eq]
  exact l_lat6 hv h7 e1 e2 e3 t x d v 0 5000 (by omega) (by omega)
theorem l_more6 (hv : v ≤ 24) (h7 : m.1 7 4 = nI v) (e1 : m.1 55 = m.1 89) (e2 : m.1 56 = m.1 90) (e3 : m.1 58 = m.1 91) (e4 : m.1 57 = m.1 92) (x d : Int32) : ∀ (j i f : Nat), i + j = 6 → j < f → sX6_moreYesThanNo_l5 f x d (vS m v x d i) (nI i) m = some (bI (¬ vS m v x d 6 ≤ 0)) := by
  intro j
  induction j with
  | zero =>
    intro i f hij hf
    obtain ⟨f, rfl⟩ := fuel_s (Nat.lt_of_le_of_lt (Nat.zero_le _) hf)
    have : i = 6 := by omega
    subst this
    rw [v5_s]
    unfold sX6_moreYesThanNo_b5 sX6_moreYesThanNo_b60
    rw [if_pos (show (6 : Int32) ≤ nI 6 by decide), nar0, nar1]
    by_cases z : vS m v x d 6 ≤ 0
    · rw [if_pos z, bI_f (not_not_intro z)]
    · rw [if_neg z, bI_t z]
  | succ j ih =>
    intro i f hij hf
    obtain ⟨f, rfl⟩ := fuel_s (Nat.lt_of_le_of_lt (Nat.zero_le _) hf)
    have e := ih (i + 1) f (by omega) (by omega)
    rw [vS_s] at e
    rw [v5_s]
    unfold sX6_moreYesThanNo_b5 sX6_moreYesThanNo_b43 sX6_moreYesThanNo_b45
    rw [if_neg (show ¬ (6 : Int32) ≤ nI i from nI_ge (b := 6) (by omega) (by omega)), p_lat6 hv h7 e1 e2 e3, cbR_some, e4]
    simp only [bnd_eq, nI_1]
    cases hl : lat (PV m (nI i) x d) (m.1 91) v with
    | none =>
      rw [hl] at e
      rw [if_pos (show ixO none < 0 by decide)]
      rw [show vS m v x d i + vV (m.1 92) none = vS m v x d i from Int32.add_zero _] at e
      exact e
    | some y =>
      have hy := (lat_lt hl).1
      rw [hl] at e
      have z : ¬ ixO (some y) < 0 := nI_pos (show y < 2 ^ 31 by omega)
      rw [if_neg z]
      show (if oob (nI y) 24 then none else if m.1 92 (nI y).toNatClampNeg = 0 then _ else _) = _
      rw [if_neg (noob (by omega) (by omega)), nI_clamp (by omega)]
      by_cases a6 : m.1 92 y = 0
      · rw [if_pos a6]
        rw [show vV (m.1 92) (some y) = -1 from if_pos a6] at e
        exact e
      · rw [if_neg a6]
        rw [show vV (m.1 92) (some y) = 1 from if_neg a6] at e
        exact e
theorem p_more6 (hv : v ≤ 24) (h7 : m.1 7 4 = nI v) (e1 : m.1 55 = m.1 89) (e2 : m.1 56 = m.1 90) (e3 : m.1 58 = m.1 91) (e4 : m.1 57 = m.1 92) (x d : Int32) : sX6_moreYesThanNo x d m = some (bI (¬ vS m v x d 6 ≤ 0)) := l_more6 hv h7 e1 e2 e3 e4 x d 6 0 5000 (by omega) (by omega)
theorem l_rec18 (hv : v ≤ 24) (h9 : m.1 9 39 = nI v) (k5 : Int32 → Int32 → Int32 → Int32 → pMem → Option Int32) (x d s t : Int32) : ∀ (j i f : Nat), i + j = v → j < f → sX9_isRecognized_l18 k5 f x d s t (ixO (lat (PV m t x d) (m.1 91) i)) (nI i) m = k5 x d (s + vV (m.1 92) (lat (PV m t x d) (m.1 91) v)) (t + 1) m := by
  intro j
  induction j with
  | zero =>
    intro i f hij hf
    obtain ⟨f, rfl⟩ := fuel_s (Nat.lt_of_le_of_lt (Nat.zero_le _) hf)
    have : i = v := by omega
    subst this
    rw [r18_s]
    unfold sX9_isRecognized_b18 sX9_isRecognized_b137
    rw [h9, if_pos (nI_le (Nat.le_refl _) (by omega))]
    simp only [bnd_eq]
    cases hl : lat (PV m t x d) (m.1 91) i with
    | none =>
      rw [if_neg (show ¬ ¬ ixO none = -1 from not_not_intro rfl)]
      rfl
    | some y =>
      have hy := (lat_lt hl).1
      rw [if_pos (ixO_ne hy (by omega))]
      show (if oob (nI y) 24 then none else if m.1 92 (nI y).toNatClampNeg = 0 then _ else _) = _
      rw [if_neg (noob (by omega) (by omega)), nI_clamp (by omega)]
      by_cases a6 : m.1 92 y = 0
      · rw [if_pos a6, show vV (m.1 92) (some y) = -1 from if_pos a6]
      · rw [if_neg a6, show vV (m.1 92) (some y) = 1 from if_neg a6]
  | succ j ih =>
    intro i f hij hf
    obtain ⟨f, rfl⟩ := fuel_s (Nat.lt_of_le_of_lt (Nat.zero_le _) hf)
    have e := ih (i + 1) f (by omega) (by omega)
    rw [lat_s] at e
    rw [r18_s]
    unfold sX9_isRecognized_b18 sX9_isRecognized_b65 sX9_isRecognized_b66 sX9_isRecognized_b96 sX9_isRecognized_b101 sX9_isRecognized_b103
    rw [h9, if_neg (nI_ge (by omega) (by omega))]
    simp only [if_neg (noob (i := i) (n := 24) (by omega) (by omega)), nI_clamp (show i < 2 ^ 31 by omega), nI_1]
    have no : ¬ PV m t x d i = true → sX9_isRecognized_l18 k5 f x d s t (ixO (lat (PV m t x d) (m.1 91) i)) (nI (i + 1)) m = k5 x d (s + vV (m.1 92) (lat (PV m t x d) (m.1 91) v)) (t + 1) m := by
      intro hn
      rw [if_neg hn] at e
      exact e
    by_cases a1 : m.1 89 i = t
    · rw [if_neg (not_not_intro a1)]
      by_cases a2 : m.1 90 i = x
      · rw [if_neg (not_not_intro a2)]
        by_cases a4 : d < m.1 91 i
        · rw [if_pos a4]
          first | exact no (by unfold PV; simp [a4]) | (rw [if_pos rfl]; exact no (by unfold PV; simp [a4]))
        · rw [if_neg a4]
          rw [if_pos (show PV m t x d i = true by unfold PV; simp [a1, a2, a4])] at e
          rw [if_neg n10]
          cases hl : lat (PV m t x d) (m.1 91) i with
          | none =>
            rw [hl] at e
            rw [if_pos (show ixO none = -1 from rfl)]
            exact e
          | some y =>
            have hy := (lat_lt hl).1
            rw [hl] at e
            rw [if_neg (ixO_ne hy (by omega))]
            show (if oob (nI y) 24 then none else if m.1 91 i < m.1 91 (nI y).toNatClampNeg then _ else _) = _
            rw [if_neg (noob (by omega) (by omega)), nI_clamp (by omega)]
            by_cases a6 : m.1 91 i < m.1 91 y
            · rw [if_pos a6]
              simp only [if_pos a6] at e
              exact e
            · rw [if_neg a6]
              simp only [if_neg a6] at e
              exact e
      · rw [if_pos a2]
        first | exact no (by unfold PV; simp [a2]) | (rw [if_pos rfl]; exact no (by unfold PV; simp [a2]))
    · rw [if_pos a1]
      first | exact no (by unfold PV; simp [a1]) | (rw [if_pos rfl]; exact no (by unfold PV; simp [a1]))
theorem l_rec5 (hv : v ≤ 24) (h9 : m.1 9 39 = nI v) (x d : Int32) : ∀ (j i f : Nat), i + j = 6 → j < f → sX9_isRecognized_l5 f x d (vS m v x d i) (nI i) m = some (bI (¬ vS m v x d 6 ≤ 0)) := by
  intro j
  induction j with
  | zero =>
    intro i f hij hf
    obtain ⟨f, rfl⟩ := fuel_s (Nat.lt_of_le_of_lt (Nat.zero_le _) hf)
    have : i = 6 := by omega
    subst this
    rw [r5_s]
    unfold sX9_isRecognized_b5 sX9_isRecognized_b154
    rw [if_pos (show (6 : Int32) ≤ nI 6 by decide), nar0, nar1]
    by_cases z : vS m v x d 6 ≤ 0
    · rw [if_pos z, bI_f (not_not_intro z)]
    · rw [if_neg z, bI_t z]
  | succ j ih =>
    intro i f hij hf
    obtain ⟨f, rfl⟩ := fuel_s (Nat.lt_of_le_of_lt (Nat.zero_le _) hf)
    have e := ih (i + 1) f (by omega) (by omega)
    rw [vS_s] at e
    rw [r5_s]
    unfold sX9_isRecognized_b5
    rw [if_neg (show ¬ (6 : Int32) ≤ nI i from nI_ge (b := 6) (by omega) (by omega)), bnd_eq]
    have y := l_rec18 hv h9 (sX9_isRecognized_l5 f) x d (vS m v x d i) (nI i) v 0 5000 (by omega) (by omega)
    rw [nI_1] at y
    exact y.trans e
theorem p_rec9 (hv : v ≤ 24) (h9 : m.1 9 39 = nI v) (x d : Int32) : sX9_isRecognized x d m = some (bI (¬ vS m v x d 6 ≤ 0)) := l_rec5 hv h9 x d 6 0 5000 (by omega) (by omega)
end VW
