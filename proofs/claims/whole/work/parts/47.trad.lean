/-! trade: the other side -/
def exB (P : Nat → Bool) : Nat → Bool
  | 0 => false
  | n + 1 => exB P n || P n
theorem exB_s (P : Nat → Bool) (n : Nat) : exB P (n + 1) = (exB P n || P n) := rfl
theorem exB_up {P : Nat → Bool} {i : Nat} : ∀ {n : Nat}, i ≤ n → exB P i = true → exB P n = true
  | 0, h, hi => by rw [show i = 0 by omega] at hi; exact hi
  | n + 1, h, hi => by
    rcases Nat.lt_or_ge n i with z | z
    · rw [show n + 1 = i by omega]; exact hi
    · rw [exB_s, exB_up z hi]; rfl
theorem exB_iff {P : Nat → Bool} : ∀ {n : Nat}, exB P n = true ↔ ∃ i, i < n ∧ P i = true
  | 0 => ⟨fun h => Bool.noConfusion h, fun ⟨i, hi, _⟩ => absurd hi (Nat.not_lt_zero i)⟩
  | n + 1 => by
    rw [exB_s, Bool.or_eq_true, exB_iff]
    constructor
    · rintro (⟨i, hi, h⟩ | h)
      · exact ⟨i, by omega, h⟩
      · exact ⟨n, by omega, h⟩
    · rintro ⟨i, hi, h⟩
      rcases Nat.lt_or_ge i n with z | z
      · exact Or.inl ⟨i, z, h⟩
      · rw [show i = n by omega] at h
        exact Or.inr h
/-- a land comes at a change, decided -/
def cmB (m : pMem) (j q : Nat) : Bool := decide ((m.1 68 j = 0 ∧ q = lnF (m.1 68) j) ∨ (m.1 68 j = 1 ∧ (q = lnF (m.1 68) j ∨ q = lnF (m.1 68) j + 1)))
theorem cmB_iff {m : pMem} {j q : Nat} : cmB m j q = true ↔ cms m j q := by
  unfold cmB cms
  exact decide_eq_true_iff
/-- change i hands the pact on to a land -/
def hands (m : pMem) (w : Nat) (W : Nat → Int32) (p : Int32) (q : Nat) (D out : Int32) (i : Nat) : Bool := decide (¬ W i = 0 ∧ ((m.1 68 i = 2 ∧ m.1 70 i = nI q ∧ m.1 78 0 = 0) ∨ (cmB m i q = true ∧ wL m w p q D out)))
theorem i26_s (f : Nat) : sX9_isBound_l26 (f + 1) = sX9_isBound_b26 (sX9_isBound_l26 f) := rfl
theorem l_isBound {m : pMem} {c g l w : Nat} (h : IH m c g l) (hw : w ≤ 24) (h9 : m.1 9 32 = nI w) {out : Int32} (ho : m.1 9 38 = out) {p : Int32} {q : Nat} (hq : q < l) {D : Int32} (hD : D < 1000) (hd : ∀ i, i < w → ¬ m.1 86 i < 0) {J : Nat} (hJ : J ≤ c) : ∀ (j i f : Nat), i + j = J → j < f → exB (hands m w (m.1 93) p q D out) i = false → sX9_isBound_l26 f p (nI q) (nI J) D (nI i) m = some (bI (exB (hands m w (m.1 93) p q D out) J = true)) := by
  have hc := h.cle
  have hl := h.lle
  intro j
  induction j with
  | zero =>
    intro i f hij hf hs
    obtain ⟨f, rfl⟩ := fuel_s (Nat.lt_of_le_of_lt (Nat.zero_le _) hf)
    have : i = J := by omega
    subst this
    rw [i26_s]
    unfold sX9_isBound_b26
    rw [if_pos (nI_le (Nat.le_refl _) (by omega)), bI_f (by rw [hs]; decide)]
  | succ j ih =>
    intro i f hij hf hs
    obtain ⟨f, rfl⟩ := fuel_s (Nat.lt_of_le_of_lt (Nat.zero_le _) hf)
    have e := ih (i + 1) f (by omega) (by omega)
    rw [exB_s, hs] at e
    have yes : hands m w (m.1 93) p q D out i = true → (some 1 : Option Int32) = some (bI (exB (hands m w (m.1 93) p q D out) J = true)) := by
      intro z
      rw [bI_t (exB_up (i := i + 1) (n := J) (by omega) (by rw [exB_s, z, Bool.or_true]))]
    have no : ¬ hands m w (m.1 93) p q D out i = true → sX9_isBound_l26 f p (nI q) (nI J) D (nI (i + 1)) m = some (bI (exB (hands m w (m.1 93) p q D out) J = true)) := by
      intro z
      exact e (by simpa using z)
    have hh : hands m w (m.1 93) p q D out i = true ↔ (¬ m.1 93 i = 0 ∧ ((m.1 68 i = 2 ∧ m.1 70 i = nI q ∧ m.1 78 0 = 0) ∨ (cmB m i q = true ∧ wL m w p q D out))) := by
      unfold hands
      exact decide_eq_true_iff
    have dc : Decidable (cms m i q) := by unfold cms; infer_instance
    rw [i26_s]
    unfold sX9_isBound_b26 sX9_isBound_b94 sX9_isBound_b73 sX9_isBound_b96
    rw [if_neg (nI_ge (by omega) (by omega)), show (0 : Int32).toNatClampNeg = 0 from rfl, p_comesBy h (j := i) (by omega) hq, cbR_some, p_held9 hw h9 ho p (Q := q) (by omega) hD hd, cbR_some]
    simp only [if_neg (noob (i := i) (n := 12) (by omega) (by omega)), nI_clamp (show i < 2 ^ 31 by omega), nI_1]
    by_cases a0 : m.1 93 i = 0
    · rw [if_pos a0]
      exact no (fun z => (hh.mp z).1 a0)
    · rw [if_neg a0]
      have words : ¬ (m.1 68 i = 2 ∧ m.1 70 i = nI q ∧ m.1 78 0 = 0) → (if bI (cms m i q) = 0 then sX9_isBound_l26 f p (nI q) (nI J) D (nI (i + 1)) m else if bI (wL m w p q D out) = 0 then sX9_isBound_l26 f p (nI q) (nI J) D (nI (i + 1)) m else some 1) = some (bI (exB (hands m w (m.1 93) p q D out) J = true)) := by
        intro hk
        by_cases b1 : cms m i q
        · rw [bI_t b1, if_neg n10]
          by_cases b2 : wL m w p q D out
          · rw [bI_t b2, if_neg n10]
            exact yes (hh.mpr ⟨a0, Or.inr ⟨cmB_iff.mpr b1, b2⟩⟩)
          · rw [bI_f b2, if_pos rfl]
            exact no (fun z => (hh.mp z).2.elim hk (fun y => b2 y.2))
        · rw [bI_f b1, if_pos rfl]
          exact no (fun z => (hh.mp z).2.elim hk (fun y => b1 (cmB_iff.mp y.1)))
      by_cases a1 : m.1 68 i = 2
      · rw [if_neg (not_not_intro a1)]
        by_cases a2 : m.1 70 i = nI q
        · rw [if_neg (not_not_intro a2)]
          by_cases a3 : m.1 78 0 = 0
          · rw [if_pos a3]
            exact yes (hh.mpr ⟨a0, Or.inl ⟨a1, a2, a3⟩⟩)
          · rw [if_neg a3]
            exact words (fun z => a3 z.2.2)
        · rw [if_pos a2]
          exact words (fun z => a2 z.2.1)
      · rw [if_pos a1]
        exact words (fun z => a1 z.1)
theorem p_isBound {m : pMem} {c g l w : Nat} (h : IH m c g l) (hw : w ≤ 24) (h9 : m.1 9 32 = nI w) {out : Int32} (ho : m.1 9 38 = out) {i : Nat} (hi : i < 12) {q : Nat} (hq : q < l) {D : Int32} (hD : D < 1000) (hd : ∀ i, i < w → ¬ m.1 86 i < 0) {J : Nat} (hJ : J ≤ c) (ahead : Int32) : sX9_isBound (nI i) (nI q) (nI J) D ahead m = some (bI ((m.1 80 i = nI q ∧ ¬ ahead ≤ m.1 83 i) ∨ exB (hands m w (m.1 93) (nI i) q D out) J = true)) := by
  have lp := l_isBound h hw h9 ho (p := nI i) hq hD hd hJ J 0 5000 (by omega) (by have := h.cle; omega) rfl
  unfold sX9_isBound sX9_isBound_b23
  rw [show sX9_isBound_l26 5000 (nI i) (nI q) (nI J) D 0 m = _ from lp]
  simp only [if_neg (noob (i := i) (n := 12) (by omega) hi), nI_clamp (show i < 2 ^ 31 by omega)]
  by_cases a1 : m.1 80 i = nI q
  · rw [if_neg (not_not_intro a1)]
    by_cases a2 : ahead ≤ m.1 83 i
    · rw [if_pos a2]
      exact congrArg some (bI_congr ⟨fun z => Or.inr z, fun z => z.elim (fun y => absurd a2 y.2) id⟩)
    · rw [if_neg a2, bI_t (Or.inl ⟨a1, a2⟩)]
  · rw [if_pos a1]
    exact congrArg some (bI_congr ⟨fun z => Or.inr z, fun z => z.elim (fun y => absurd y.1 a1) id⟩)
