/-! the first yes -/
/-- a yes of one's own, not left out -/
def FY (m : pMem) (p q out : Int32) (i : Nat) : Bool := decide (m.1 84 i = p ∧ m.1 85 i = q ∧ m.1 87 i = 0 ∧ ¬ m.1 88 i = 0 ∧ bt out i = false)
/-- the least of all -/
def fyC (F : Nat → Bool) (D : Nat → Int32) : Nat → Int32
  | 0 => 1000
  | n + 1 => if F n = true ∧ ¬ fyC F D n ≤ D n then D n else fyC F D n
/-- the least of those not behind a day -/
def fyM (F : Nat → Bool) (D : Nat → Int32) (d : Int32) : Nat → Int32
  | 0 => -1
  | n + 1 => if F n = true ∧ ¬ d < D n then (if fyM F D d n = -1 then D n else if fyM F D d n ≤ D n then fyM F D d n else D n) else fyM F D d n
theorem fyC_s (F : Nat → Bool) (D : Nat → Int32) (n : Nat) : fyC F D (n + 1) = if F n = true ∧ ¬ fyC F D n ≤ D n then D n else fyC F D n := rfl
theorem fyM_s (F : Nat → Bool) (D : Nat → Int32) (d : Int32) (n : Nat) : fyM F D d (n + 1) = if F n = true ∧ ¬ d < D n then (if fyM F D d n = -1 then D n else if fyM F D d n ≤ D n then fyM F D d n else D n) else fyM F D d n := rfl
theorem fy_two {F : Nat → Bool} {D : Nat → Int32} {d : Int32} (hd : d < 1000) : ∀ {n : Nat}, (∀ i, i < n → ¬ D i < 0) → (fyM F D d n = -1 ∧ (∀ i, i < n → F i = true → d < D i) ∧ d < fyC F D n) ∨ (fyM F D d n = fyC F D n ∧ ¬ d < fyM F D d n ∧ ¬ fyM F D d n < 0)
  | 0, _ => Or.inl ⟨rfl, fun i h => absurd h (Nat.not_lt_zero _), hd⟩
  | n + 1, h => by
    have hn := h n (by omega)
    rw [fyC_s, fyM_s]
    rcases fy_two hd (n := n) (fun i hi => h i (by omega)) with ⟨h1, h2, h3⟩ | ⟨h1, h2, h3⟩
    · by_cases e : F n = true
      · by_cases f : d < D n
        · rw [if_neg (fun z => z.2 f)]
          refine Or.inl ⟨h1, fun i hi hF => ?_, ?_⟩
          · rcases Nat.lt_or_ge i n with z | z
            · exact h2 i z hF
            · rw [show i = n by omega]; exact f
          · by_cases g : F n = true ∧ ¬ fyC F D n ≤ D n
            · rw [if_pos g]; exact f
            · rw [if_neg g]; exact h3
        · have h5 : ¬ fyC F D n ≤ D n := fun z => f (Int32.lt_of_lt_of_le h3 z)
          rw [if_pos ⟨e, f⟩, if_pos h1, if_pos ⟨e, h5⟩]
          exact Or.inr ⟨rfl, f, hn⟩
      · rw [if_neg (fun z => e z.1), if_neg (fun z => e z.1)]
        refine Or.inl ⟨h1, fun i hi hF => ?_, h3⟩
        rcases Nat.lt_or_ge i n with z | z
        · exact h2 i z hF
        · rw [show i = n by omega] at hF; exact absurd hF e
    · refine Or.inr ?_
      have n1 : ¬ fyM F D d n = -1 := fun z => h3 (by rw [z]; decide)
      by_cases e : F n = true
      · by_cases f : d < D n
        · have h5 : fyC F D n ≤ D n := by
            rw [← h1]
            exact Int32.le_trans (Int32.not_lt.mp h2) (Int32.le_of_lt f)
          rw [if_neg (fun z => z.2 f), if_neg (fun z => z.2 h5)]
          exact ⟨h1, h2, h3⟩
        · rw [if_pos ⟨e, f⟩, if_neg n1]
          by_cases g : fyC F D n ≤ D n
          · rw [if_neg (show ¬ (F n = true ∧ ¬ fyC F D n ≤ D n) from fun z => z.2 g), if_pos (by rw [h1]; exact g)]
            exact ⟨h1, h2, h3⟩
          · rw [if_pos (show F n = true ∧ ¬ fyC F D n ≤ D n from ⟨e, g⟩), if_neg (by rw [h1]; exact g)]
            exact ⟨rfl, f, hn⟩
      · rw [if_neg (fun z => e z.1), if_neg (fun z => e z.1)]
        exact ⟨h1, h2, h3⟩
theorem y7_s (f : Nat) : sX7_firstYes_l8 (f + 1) = sX7_firstYes_b8 (sX7_firstYes_l8 f) := rfl
theorem y9_s (f : Nat) : sX9_firstYes_l6 (f + 1) = sX9_firstYes_b6 (sX9_firstYes_l6 f) := rfl
section FW
variable {m : pMem} {w : Nat}
theorem l_yes7 (hw : w ≤ 24) (h8 : m.1 8 5 = nI w) (e1 : m.1 59 = m.1 84) (e2 : m.1 60 = m.1 85) (e3 : m.1 61 = m.1 87) (e4 : m.1 63 = m.1 86) (e5 : m.1 62 = m.1 88) (p q out : Int32) : ∀ (j i f : Nat), i + j = w → j < f → sX7_firstYes_l8 f p q out (fyC (FY m p q out) (m.1 86) i) (nI i) m = some (fyC (FY m p q out) (m.1 86) w) := by
  intro j
  induction j with
  | zero =>
    intro i f hij hf
    obtain ⟨f, rfl⟩ := fuel_s (Nat.lt_of_le_of_lt (Nat.zero_le _) hf)
    have : i = w := by omega
    subst this
    rw [y7_s]
    unfold sX7_firstYes_b8
    rw [h8, if_pos (nI_le (Nat.le_refl _) (by omega))]
  | succ j ih =>
    intro i f hij hf
    obtain ⟨f, rfl⟩ := fuel_s (Nat.lt_of_le_of_lt (Nat.zero_le _) hf)
    have e := ih (i + 1) f (by omega) (by omega)
    rw [fyC_s] at e
    rw [y7_s]
    unfold sX7_firstYes_b8 sX7_firstYes_b92
    rw [h8, if_neg (nI_ge (by omega) (by omega)), e1, e2, e3, e4, e5]
    simp only [if_neg (noob (i := i) (n := 24) (by omega) (by omega)), nI_clamp (show i < 2 ^ 31 by omega), nI_1, bnd_eq]
    have no : ¬ FY m p q out i = true → sX7_firstYes_l8 f p q out (fyC (FY m p q out) (m.1 86) i) (nI (i + 1)) m = some (fyC (FY m p q out) (m.1 86) w) := by
      intro hn
      rw [if_neg (fun z => hn z.1)] at e
      exact e
    by_cases a1 : m.1 84 i = p
    · rw [if_neg (not_not_intro a1)]
      by_cases a2 : m.1 85 i = q
      · rw [if_neg (not_not_intro a2)]
        by_cases a3 : m.1 87 i = 0
        · rw [if_neg (not_not_intro a3)]
          by_cases a4 : m.1 88 i = 0
          · rw [if_neg (not_not_intro a4)]
            exact no (by unfold FY; simp [a4])
          · rw [if_pos a4, b_ask out i (by omega)]
            cases a5 : bt out i
            · have hy : FY m p q out i = true := by unfold FY; simp [a1, a2, a3, a4, a5]
              rw [if_neg (show ¬ false = true by decide), if_neg nn0]
              by_cases a6 : fyC (FY m p q out) (m.1 86) i ≤ m.1 86 i
              · rw [if_pos a6]
                rw [if_neg (fun z => z.2 a6)] at e
                exact e
              · rw [if_neg a6]
                rw [if_pos ⟨hy, a6⟩] at e
                exact e
            · rw [if_pos rfl, if_pos n10]
              exact no (by unfold FY; simp [a5])
        · rw [if_pos a3]
          exact no (by unfold FY; simp [a3])
      · rw [if_pos a2]
        exact no (by unfold FY; simp [a2])
    · rw [if_pos a1]
      exact no (by unfold FY; simp [a1])
theorem l_yes9 (hw : w ≤ 24) (h9 : m.1 9 32 = nI w) {out : Int32} (ho : m.1 9 38 = out) (p q d : Int32) : ∀ (j i f : Nat), i + j = w → j < f → sX9_firstYes_l6 f p q d (fyM (FY m p q out) (m.1 86) d i) (nI i) m = some (fyM (FY m p q out) (m.1 86) d w) := by
  intro j
  induction j with
  | zero =>
    intro i f hij hf
    obtain ⟨f, rfl⟩ := fuel_s (Nat.lt_of_le_of_lt (Nat.zero_le _) hf)
    have : i = w := by omega
    subst this
    rw [y9_s]
    unfold sX9_firstYes_b6
    rw [h9, if_pos (nI_le (Nat.le_refl _) (by omega))]
  | succ j ih =>
    intro i f hij hf
    obtain ⟨f, rfl⟩ := fuel_s (Nat.lt_of_le_of_lt (Nat.zero_le _) hf)
    have e := ih (i + 1) f (by omega) (by omega)
    rw [fyM_s] at e
    rw [y9_s]
    unfold sX9_firstYes_b6 sX9_firstYes_b84 sX9_firstYes_b85 sX9_firstYes_b110 sX9_firstYes_b120 sX9_firstYes_b122
    rw [h9, if_neg (nI_ge (by omega) (by omega)), ho, b_ask out i (by omega)]
    simp only [if_neg (noob (i := i) (n := 24) (by omega) (by omega)), nI_clamp (show i < 2 ^ 31 by omega), nI_1]
    have no : ¬ (FY m p q out i = true ∧ ¬ d < m.1 86 i) → sX9_firstYes_l6 f p q d (fyM (FY m p q out) (m.1 86) d i) (nI (i + 1)) m = some (fyM (FY m p q out) (m.1 86) d w) := by
      intro hn
      rw [if_neg hn] at e
      exact e
    cases a5 : bt out i
    · rw [if_neg (show ¬ ¬ (if false = true then (1 : Int32) else 0) = 0 by decide)]
      by_cases a1 : m.1 84 i = p
      · rw [if_neg (not_not_intro a1)]
        by_cases a2 : m.1 85 i = q
        · rw [if_neg (not_not_intro a2)]
          by_cases a3 : m.1 87 i = 0
          · rw [if_neg (not_not_intro a3)]
            by_cases a4 : m.1 88 i = 0
            · rw [if_pos a4]
              first | exact no (by unfold FY; simp [a4]) | (rw [if_pos rfl]; exact no (by unfold FY; simp [a4]))
            · rw [if_neg a4]
              have hy : FY m p q out i = true := by unfold FY; simp [a1, a2, a3, a4, a5]
              by_cases a6 : d < m.1 86 i
              · rw [if_pos a6]
                first | exact no (fun z => z.2 a6) | (rw [if_pos rfl]; exact no (fun z => z.2 a6))
              · rw [if_neg a6]
                rw [if_pos ⟨hy, a6⟩] at e
                rw [if_neg n10]
                by_cases a7 : fyM (FY m p q out) (m.1 86) d i = -1
                · rw [if_pos a7]
                  rw [if_pos a7] at e
                  exact e
                · rw [if_neg a7]
                  rw [if_neg a7] at e
                  by_cases a8 : fyM (FY m p q out) (m.1 86) d i ≤ m.1 86 i
                  · rw [if_pos a8]
                    rw [if_pos a8] at e
                    exact e
                  · rw [if_neg a8]
                    rw [if_neg a8] at e
                    exact e
          · rw [if_pos a3]
            first | exact no (by unfold FY; simp [a3]) | (rw [if_pos rfl]; exact no (by unfold FY; simp [a3]))
        · rw [if_pos a2]
          first | exact no (by unfold FY; simp [a2]) | (rw [if_pos rfl]; exact no (by unfold FY; simp [a2]))
      · rw [if_pos a1]
        first | exact no (by unfold FY; simp [a1]) | (rw [if_pos rfl]; exact no (by unfold FY; simp [a1]))
    · rw [if_pos (show ¬ (if true = true then (1 : Int32) else 0) = 0 by decide)]
      first | exact no (by unfold FY; simp [a5]) | (rw [if_pos rfl]; exact no (by unfold FY; simp [a5]))
theorem p_yes7 (hw : w ≤ 24) (h8 : m.1 8 5 = nI w) (e1 : m.1 59 = m.1 84) (e2 : m.1 60 = m.1 85) (e3 : m.1 61 = m.1 87) (e4 : m.1 63 = m.1 86) (e5 : m.1 62 = m.1 88) (p q out : Int32) : sX7_firstYes p q out m = some (fyC (FY m p q out) (m.1 86) w) := by
  unfold sX7_firstYes
  exact l_yes7 hw h8 e1 e2 e3 e4 e5 p q out w 0 5000 (by omega) (by omega)
theorem p_yes9 (hw : w ≤ 24) (h9 : m.1 9 32 = nI w) {out : Int32} (ho : m.1 9 38 = out) (p q d : Int32) : sX9_firstYes p q d m = some (fyM (FY m p q out) (m.1 86) d w) := by
  unfold sX9_firstYes
  rw [bnd_eq]
  exact l_yes9 hw h9 ho p q d w 0 5000 (by omega) (by omega)
/-- with a latest word that says yes both are one -/
theorem fy_eq {p q d out : Int32} (hd : d < 1000) (hD : ∀ i, i < w → ¬ m.1 86 i < 0) (h : resL (m.1 88) (lat (PW m p q 0 d out) (m.1 86) w) = 1) : fyM (FY m p q out) (m.1 86) d w = fyC (FY m p q out) (m.1 86) w := by
  cases hl : lat (PW m p q 0 d out) (m.1 86) w with
  | none => rw [hl] at h; exact absurd (show (-1 : Int32) = 1 from h) (by decide)
  | some x =>
    rw [hl] at h
    obtain ⟨hx, hp⟩ := lat_lt hl
    have hy : ¬ m.1 88 x = 0 := fun z => by
      rw [show resL (m.1 88) (some x) = if m.1 88 x = 0 then 0 else 1 from rfl, if_pos z] at h
      exact absurd h (by decide)
    unfold PW at hp
    obtain ⟨c1, c2, c3, c4, c5⟩ := of_decide_eq_true hp
    rcases fy_two (F := FY m p q out) hd hD with ⟨-, h2, -⟩ | ⟨h1, -, -⟩
    · exact absurd (h2 x hx (by unfold FY; simp [c1, c2, c3, hy, c5])) c4
    · exact h1
end FW
