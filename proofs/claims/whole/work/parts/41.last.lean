/-! the latest of those that are chosen -/
def lat (P : Nat → Bool) (D : Nat → Int32) : Nat → Option Nat
  | 0 => none
  | n + 1 => if P n = true then (match lat P D n with
    | none => some n
    | some i => if D n < D i then some i else some n) else lat P D n
theorem lat_s (P : Nat → Bool) (D : Nat → Int32) (n : Nat) : lat P D (n + 1) = if P n = true then (match lat P D n with
    | none => some n
    | some i => if D n < D i then some i else some n) else lat P D n := rfl
def ixO : Option Nat → Int32
  | none => -1
  | some i => nI i
theorem lat_lt {P : Nat → Bool} {D : Nat → Int32} : ∀ {n i : Nat}, lat P D n = some i → i < n ∧ P i = true
  | 0, i, h => by cases h
  | n + 1, i, h => by
    rw [lat_s] at h
    by_cases e : P n = true
    · rw [if_pos e] at h
      cases hl : lat P D n with
      | none =>
        rw [hl] at h
        cases h
        exact ⟨by omega, e⟩
      | some j =>
        rw [hl] at h
        have hj := lat_lt hl
        by_cases f : D n < D j
        · simp only [if_pos f] at h
          cases h
          exact ⟨by omega, hj.2⟩
        · simp only [if_neg f] at h
          cases h
          exact ⟨by omega, e⟩
    · rw [if_neg e] at h
      have := lat_lt h
      exact ⟨by omega, this.2⟩
/-- yes, no, or nothing said -/
def resL (y : Nat → Int32) : Option Nat → Int32
  | none => -1
  | some i => if y i = 0 then 0 else 1
/-- a word is chosen -/
def PW (m : pMem) (p q t d out : Int32) (i : Nat) : Bool := decide (m.1 84 i = p ∧ m.1 85 i = q ∧ m.1 87 i = t ∧ ¬ d < m.1 86 i ∧ bt out i = false)
theorem l7_s (f : Nat) : sX7_latest_l6 (f + 1) = sX7_latest_b6 (sX7_latest_l6 f) := rfl
theorem l9_s (f : Nat) : sX9_latest_l6 (f + 1) = sX9_latest_b6 (sX9_latest_l6 f) := rfl
section LW
variable {m : pMem} {w : Nat}
theorem l_latest7 (hw : w ≤ 24) (h8 : m.1 8 5 = nI w) (e1 : m.1 59 = m.1 84) (e2 : m.1 60 = m.1 85) (e3 : m.1 61 = m.1 87) (e4 : m.1 63 = m.1 86) (e5 : m.1 62 = m.1 88) (p q t d out : Int32) : ∀ (j i f : Nat), i + j = w → j < f → sX7_latest_l6 f p q t d out (ixO (lat (PW m p q t d out) (m.1 86) i)) (nI i) m = some (resL (m.1 88) (lat (PW m p q t d out) (m.1 86) w)) := by
  intro j
  induction j with
  | zero =>
    intro i f hij hf
    obtain ⟨f, rfl⟩ := fuel_s (Nat.lt_of_le_of_lt (Nat.zero_le _) hf)
    have : i = w := by omega
    subst this
    rw [l7_s]
    unfold sX7_latest_b6 sX7_latest_b130
    rw [h8, if_pos (nI_le (Nat.le_refl _) (by omega))]
    cases hl : lat (PW m p q t d out) (m.1 86) i with
    | none => rfl
    | some x =>
      have hx := (lat_lt hl).1
      rw [show ixO (some x) = nI x from rfl]
      rw [if_pos (show (0 : Int32) ≤ nI x from nI_le (a := 0) (Nat.zero_le x) (by omega)), if_neg (noob (by omega) (by omega)), nI_clamp (by omega), e5]
      show _ = some (if m.1 88 x = 0 then 0 else 1)
      by_cases z : m.1 88 x = 0
      · rw [if_pos z, if_pos z]
      · rw [if_neg z, if_neg z]
  | succ j ih =>
    intro i f hij hf
    obtain ⟨f, rfl⟩ := fuel_s (Nat.lt_of_le_of_lt (Nat.zero_le _) hf)
    have e := ih (i + 1) f (by omega) (by omega)
    rw [lat_s] at e
    rw [l7_s]
    unfold sX7_latest_b6 sX7_latest_b98 sX7_latest_b102
    rw [h8, if_neg (nI_ge (by omega) (by omega)), e1, e2, e3, e4]
    simp only [if_neg (noob (i := i) (n := 24) (by omega) (by omega)), nI_clamp (show i < 2 ^ 31 by omega), nI_1]
    by_cases a1 : m.1 84 i = p
    · rw [if_neg (not_not_intro a1)]
      by_cases a2 : m.1 85 i = q
      · rw [if_neg (not_not_intro a2)]
        by_cases a3 : m.1 87 i = t
        · rw [if_pos a3]
          by_cases a4 : d < m.1 86 i
          · rw [if_neg (show ¬ PW m p q t d out i = true by unfold PW; simp [a4])] at e
            rw [if_pos a4]; exact e
          · rw [if_neg a4, b_ask out i (by omega)]
            cases a5 : bt out i
            · rw [if_pos (show PW m p q t d out i = true by unfold PW; simp [a1, a2, a3, a4, a5])] at e
              rw [if_neg (show ¬ false = true by decide), if_pos rfl]
              cases hl : lat (PW m p q t d out) (m.1 86) i with
              | none =>
                rw [hl] at e
                rw [if_pos (show ixO none < 0 by decide)]
                exact e
              | some x =>
                have hx := (lat_lt hl).1
                rw [hl] at e
                have z : ¬ ixO (some x) < 0 := nI_pos (show x < 2 ^ 31 by omega)
                rw [if_neg z]
                show (if oob (nI x) 24 then none else if m.1 86 i < m.1 86 (nI x).toNatClampNeg then _ else _) = _
                rw [if_neg (noob (by omega) (by omega)), nI_clamp (by omega)]
                by_cases a6 : m.1 86 i < m.1 86 x
                · rw [if_pos a6]
                  simp only [if_pos a6] at e
                  exact e
                · rw [if_neg a6]
                  simp only [if_neg a6] at e
                  exact e
            · rw [if_neg (show ¬ PW m p q t d out i = true by unfold PW; simp [a5])] at e
              rw [if_pos rfl, if_neg n10]; exact e
        · rw [if_neg (show ¬ PW m p q t d out i = true by unfold PW; simp [a3])] at e
          rw [if_neg a3]; exact e
      · rw [if_neg (show ¬ PW m p q t d out i = true by unfold PW; simp [a2])] at e
        rw [if_pos a2]; exact e
    · rw [if_neg (show ¬ PW m p q t d out i = true by unfold PW; simp [a1])] at e
      rw [if_pos a1]; exact e
theorem l_latest9 (hw : w ≤ 24) (h9 : m.1 9 32 = nI w) {out : Int32} (ho : m.1 9 38 = out) (p q t d : Int32) : ∀ (j i f : Nat), i + j = w → j < f → sX9_latest_l6 f p q t d (ixO (lat (PW m p q t d out) (m.1 86) i)) (nI i) m = some (resL (m.1 88) (lat (PW m p q t d out) (m.1 86) w)) := by
  intro j
  induction j with
  | zero =>
    intro i f hij hf
    obtain ⟨f, rfl⟩ := fuel_s (Nat.lt_of_le_of_lt (Nat.zero_le _) hf)
    have : i = w := by omega
    subst this
    rw [l9_s]
    unfold sX9_latest_b6 sX9_latest_b147
    rw [h9, if_pos (nI_le (Nat.le_refl _) (by omega))]
    cases hl : lat (PW m p q t d out) (m.1 86) i with
    | none => rfl
    | some x =>
      have hx := (lat_lt hl).1
      have z : ¬ ixO (some x) = -1 := fun y => absurd (show nI x < 0 by rw [show nI x = -1 from y]; decide) (nI_pos (show x < 2 ^ 31 by omega))
      rw [if_pos z]
      show (if oob (nI x) 24 then none else if m.1 88 (nI x).toNatClampNeg = 0 then _ else _) = some (if m.1 88 x = 0 then 0 else 1)
      rw [if_neg (noob (by omega) (by omega)), nI_clamp (by omega)]
      by_cases z : m.1 88 x = 0
      · rw [if_pos z, if_pos z]
      · rw [if_neg z, if_neg z]
  | succ j ih =>
    intro i f hij hf
    obtain ⟨f, rfl⟩ := fuel_s (Nat.lt_of_le_of_lt (Nat.zero_le _) hf)
    have e := ih (i + 1) f (by omega) (by omega)
    rw [lat_s] at e
    rw [l9_s]
    unfold sX9_latest_b6 sX9_latest_b76 sX9_latest_b77 sX9_latest_b107 sX9_latest_b112 sX9_latest_b114
    rw [h9, if_neg (nI_ge (by omega) (by omega)), ho, b_ask out i (by omega)]
    simp only [if_neg (noob (i := i) (n := 24) (by omega) (by omega)), nI_clamp (show i < 2 ^ 31 by omega), nI_1]
    have no : ¬ PW m p q t d out i = true → sX9_latest_l6 f p q t d (ixO (lat (PW m p q t d out) (m.1 86) i)) (nI (i + 1)) m = some (resL (m.1 88) (lat (PW m p q t d out) (m.1 86) w)) := by
      intro hn
      rw [if_neg hn] at e
      exact e
    cases a5 : bt out i
    · rw [if_neg (show ¬ ¬ (if false = true then (1 : Int32) else 0) = 0 by decide)]
      by_cases a1 : m.1 84 i = p
      · rw [if_neg (not_not_intro a1)]
        by_cases a2 : m.1 85 i = q
        · rw [if_neg (not_not_intro a2)]
          by_cases a3 : m.1 87 i = t
          · rw [if_neg (not_not_intro a3)]
            by_cases a4 : d < m.1 86 i
            · rw [if_pos a4]
              first | exact no (by unfold PW; simp [a4]) | (rw [if_pos rfl]; exact no (by unfold PW; simp [a4]))
            · rw [if_neg a4]
              rw [if_pos (show PW m p q t d out i = true by unfold PW; simp [a1, a2, a3, a4, a5])] at e
              rw [if_neg n10]
              cases hl : lat (PW m p q t d out) (m.1 86) i with
              | none =>
                rw [hl] at e
                rw [if_pos (show ixO none = -1 from rfl)]
                exact e
              | some x =>
                have hx := (lat_lt hl).1
                rw [hl] at e
                have z : ¬ ixO (some x) = -1 := fun y => absurd (show nI x < 0 by rw [show nI x = -1 from y]; decide) (nI_pos (show x < 2 ^ 31 by omega))
                rw [if_neg z]
                show (if oob (nI x) 24 then none else if m.1 86 i < m.1 86 (nI x).toNatClampNeg then _ else _) = _
                rw [if_neg (noob (by omega) (by omega)), nI_clamp (by omega)]
                by_cases a6 : m.1 86 i < m.1 86 x
                · rw [if_pos a6]
                  simp only [if_pos a6] at e
                  exact e
                · rw [if_neg a6]
                  simp only [if_neg a6] at e
                  exact e
          · rw [if_pos a3]
            first | exact no (by unfold PW; simp [a3]) | (rw [if_pos rfl]; exact no (by unfold PW; simp [a3]))
        · rw [if_pos a2]
          first | exact no (by unfold PW; simp [a2]) | (rw [if_pos rfl]; exact no (by unfold PW; simp [a2]))
      · rw [if_pos a1]
        first | exact no (by unfold PW; simp [a1]) | (rw [if_pos rfl]; exact no (by unfold PW; simp [a1]))
    · rw [if_pos (show ¬ (if true = true then (1 : Int32) else 0) = 0 by decide)]
      first | exact no (by unfold PW; simp [a5]) | (rw [if_pos rfl]; exact no (by unfold PW; simp [a5]))
theorem p_latest7 (hw : w ≤ 24) (h8 : m.1 8 5 = nI w) (e1 : m.1 59 = m.1 84) (e2 : m.1 60 = m.1 85) (e3 : m.1 61 = m.1 87) (e4 : m.1 63 = m.1 86) (e5 : m.1 62 = m.1 88) (p q t d out : Int32) : sX7_latest p q t d out m = some (resL (m.1 88) (lat (PW m p q t d out) (m.1 86) w)) := by
  unfold sX7_latest
  rw [bnd_eq]
  exact l_latest7 hw h8 e1 e2 e3 e4 e5 p q t d out w 0 5000 (by omega) (by omega)
theorem p_latest9 (hw : w ≤ 24) (h9 : m.1 9 32 = nI w) {out : Int32} (ho : m.1 9 38 = out) (p q t d : Int32) : sX9_latest p q t d m = some (resL (m.1 88) (lat (PW m p q t d out) (m.1 86) w)) := by
  unfold sX9_latest
  rw [bnd_eq]
  exact l_latest9 hw h9 ho p q t d w 0 5000 (by omega) (by omega)
end LW
