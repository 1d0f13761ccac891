/-! what follows of the history's part of the invariant -/
theorem b_three (n : Nat) (hn : n < 31) {i : Nat} (hi : i < 32) : bt ((3 : Int32) <<< (nI n &&& 31)) i = decide (i = n ∨ i = n + 1) := by
  rw [b_shl n (by omega) 3 hi]
  by_cases h : n ≤ i
  · rw [b_3 (i - n) (by omega)]
    simp only [h, decide_true, Bool.true_and]
    exact decide_eq_decide.mpr (by omega)
  · simp [h]; omega
theorem b_not1 (n : Nat) (hn : n < 32) {i : Nat} (hi : i < 32) : bt (((1 : Int32) <<< (nI n &&& 31)) ^^^ (-1 : Int32)) i = decide (i ≠ n) := by
  rw [b_xor, b_one n hn hi, b_m1 i hi]
  by_cases h : i = n <;> simp [h]
theorem lnF_mono (K : Nat → Int32) {i j : Nat} (h : i ≤ j) : lnF K i ≤ lnF K j := by
  induction j with
  | zero => rw [show i = 0 by omega]; exact Nat.le_refl _
  | succ j ih =>
    rcases Nat.lt_or_ge j i with q | q
    · rw [show i = j + 1 by omega]; exact Nat.le_refl _
    · exact Nat.le_trans (ih q) (by rw [lnF_s]; omega)
theorem lnF_pos (K : Nat → Int32) (j : Nat) : 1 ≤ lnF K j := lnF_mono K (Nat.zero_le j)
section HH
variable {m : pMem} {c g l : Nat}
theorem IH.lb (h : IH m c g l) {j : Nat} (hj : j ≤ c) : lnF (m.1 68) j ≤ 10 := by
  have := lnF_mono (m.1 68) hj
  have := h.ll
  have := h.lle
  omega
theorem k_ne {a b : Nat} (ha : a < 5) (hb : b < 5) (h : a ≠ b) : ¬ nI a = nI b := fun q => h (nI_inj (by omega) (by omega) q)
/-- the five kinds -/
theorem IH.kc (h : IH m c g l) {j : Nat} (hj : j < c) : m.1 68 j = 0 ∨ m.1 68 j = 1 ∨ m.1 68 j = 2 ∨ m.1 68 j = 3 ∨ m.1 68 j = 4 := by
  obtain ⟨k, hk, e⟩ := h.kr j hj
  rw [e]
  rcases (show k = 0 ∨ k = 1 ∨ k = 2 ∨ k = 3 ∨ k = 4 by omega) with rfl | rfl | rfl | rfl | rfl
  · exact Or.inl rfl
  · exact Or.inr (Or.inl rfl)
  · exact Or.inr (Or.inr (Or.inl rfl))
  · exact Or.inr (Or.inr (Or.inr (Or.inl rfl)))
  · exact Or.inr (Or.inr (Or.inr (Or.inr rfl)))
/-- a land comes at change j -/
def cms (m : pMem) (j q : Nat) : Prop := (m.1 68 j = 0 ∧ q = lnF (m.1 68) j) ∨ (m.1 68 j = 1 ∧ (q = lnF (m.1 68) j ∨ q = lnF (m.1 68) j + 1))
theorem IH.tb (h : IH m c g l) {j : Nat} (hj : j < c) {q : Nat} (hq : q < 32) : bt (m.1 75 (j + 1)) q = true ↔ cms m j q ∨ (bt (m.1 75 j) q = true ∧ ¬ ends m j q) := by
  have hlb := h.lb (j := j) (by omega)
  rw [h.ts j hj, h.fr j hj]
  obtain ⟨a, ha, ea, -⟩ := h.ar j hj
  unfold cms ends thS
  rcases h.kc hj with k | k | k | k | k
  · simp only [k, if_true]
    rw [b_or, b_one _ (by omega) hq]
    have n1 : ¬ (0 : Int32) = 1 := by decide
    have n2 : ¬ (0 : Int32) = 2 := by decide
    simp only [n1, n2, false_and, or_false, Bool.or_eq_true, decide_eq_true_eq, true_and, not_false_eq_true, and_true]
    exact Or.comm
  · have n0 : ¬ (1 : Int32) = 0 := by decide
    have n2 : ¬ (1 : Int32) = 2 := by decide
    simp only [k, n0, n2, if_false, if_true, false_and, false_or, or_false, true_and]
    rw [ea, b_or, b_and, b_not1 a (by omega) hq, b_three _ (by omega) hq]
    simp only [Bool.or_eq_true, Bool.and_eq_true, decide_eq_true_eq]
    have : nI a = nI q ↔ q = a := ⟨fun z => (nI_inj (by omega) (by omega) z).symm, fun z => by rw [z]⟩
    rw [this]
    constructor
    · rintro (⟨z1, z2⟩ | z)
      · exact Or.inr ⟨z1, z2⟩
      · exact Or.inl z
    · rintro (z | ⟨z1, z2⟩)
      · exact Or.inr z
      · exact Or.inl ⟨z1, z2⟩
  · obtain ⟨b, hb, eb, -, -⟩ := h.br j hj (Or.inl k)
    have n0 : ¬ (2 : Int32) = 0 := by decide
    have n1 : ¬ (2 : Int32) = 1 := by decide
    simp only [k, n0, n1, if_false, if_true, false_and, false_or, true_and]
    rw [eb, b_and, b_not1 b (by omega) hq]
    have : nI b = nI q ↔ q = b := ⟨fun z => (nI_inj (by omega) (by omega) z).symm, fun z => by rw [z]⟩
    rw [this]
    simp only [Bool.and_eq_true, decide_eq_true_eq]
  · have n0 : ¬ (3 : Int32) = 0 := by decide
    have n1 : ¬ (3 : Int32) = 1 := by decide
    have n2 : ¬ (3 : Int32) = 2 := by decide
    simp [k, n0, n1, n2]
  · have n0 : ¬ (4 : Int32) = 0 := by decide
    have n1 : ¬ (4 : Int32) = 1 := by decide
    have n2 : ¬ (4 : Int32) = 2 := by decide
    simp [k, n0, n1, n2]
theorem cms_lt {j q : Nat} (hc : cms m j q) : lnF (m.1 68) j ≤ q ∧ q < lnF (m.1 68) (j + 1) := by
  rw [lnF_s]
  rcases hc with ⟨k, rfl⟩ | ⟨k, hq⟩
  · rw [if_pos k]; omega
  · rw [k, if_neg (by decide), if_pos rfl]; omega
/-- no land is there that has not come -/
theorem IH.tz (h : IH m c g l) : ∀ {j : Nat}, j ≤ c → ∀ {q : Nat}, q < 32 → bt (m.1 75 j) q = true → q < lnF (m.1 68) j := by
  intro j
  induction j with
  | zero =>
    intro _ q hq hb
    rw [h.t0, b_1 q hq] at hb
    have : q = 0 := by simpa using hb
    subst this
    exact Nat.one_pos
  | succ j ih =>
    intro hj q hq hb
    rcases (h.tb (by omega) hq).mp hb with z | ⟨z, -⟩
    · exact (cms_lt z).2
    · exact Nat.lt_of_lt_of_le (ih (by omega) hq z) (lnF_mono _ (by omega))
theorem IH.tzf (h : IH m c g l) {j : Nat} (hj : j ≤ c) {q : Nat} (hq : q < 32) (hl : lnF (m.1 68) j ≤ q) : bt (m.1 75 j) q = false := by
  cases hb : bt (m.1 75 j) q with
  | false => rfl
  | true => exact absurd (h.tz hj hq hb) (by omega)
/-- who has a ground is there -/
theorem IH.ow (h : IH m c g l) : ∀ {j : Nat}, j ≤ c → ∀ {i : Nat}, i < 8 → ∃ q, q < lnF (m.1 68) j ∧ m.1 74 (8 * j + i) = nI q ∧ bt (m.1 75 j) q = true := by
  intro j
  induction j with
  | zero =>
    intro _ i hi
    refine ⟨0, Nat.one_pos, ?_, by rw [h.t0]; exact b_1 0 (by omega)⟩
    rw [show 8 * 0 + i = i by omega, h.o0 i hi]
    rfl
  | succ j ih =>
    intro hj i hi
    obtain ⟨q, hq, eq, hb⟩ := ih (by omega) hi
    have hj' : j < c := by omega
    have hlb := h.lb (j := j) (by omega)
    have hlb1 := h.lb (j := j + 1) hj
    obtain ⟨a, ha, ea, hab⟩ := h.ar j hj'
    rw [h.os j hj' i hi, eq, h.fr j hj']
    have hm := lnF_mono (m.1 68) (Nat.le_succ j)
    -- it stays, or another one that is there takes it
    have stay : ¬ ends m j q → ∃ r, r < lnF (m.1 68) (j + 1) ∧ nI q = nI r ∧ bt (m.1 75 (j + 1)) r = true := fun z => ⟨q, Nat.lt_of_lt_of_le hq hm, rfl, (h.tb hj' (by omega)).mpr (Or.inr ⟨hb, z⟩)⟩
    have new : ∀ r, cms m j r → ∃ r', r' < lnF (m.1 68) (j + 1) ∧ nI r = nI r' ∧ bt (m.1 75 (j + 1)) r' = true := fun r z => ⟨r, (cms_lt z).2, rfl, (h.tb hj' (by have := (cms_lt z).2; omega)).mpr (Or.inl z)⟩
    unfold owS
    rcases h.kc hj' with k | k | k | k | k
    · rw [if_pos (Or.inl k)]
      by_cases e : nI q = m.1 70 j
      · rw [if_pos e]
        by_cases hs : bt (m.1 72 j) i = true
        · rw [if_pos hs]; exact new _ (Or.inl ⟨k, rfl⟩)
        · rw [if_neg hs, if_pos k, ← e]
          exact stay (by unfold ends; rw [k]; rintro (⟨z, -⟩ | ⟨z, -⟩) <;> exact absurd z (by decide))
      · rw [if_neg e]
        exact stay (by unfold ends; rw [k]; rintro (⟨z, -⟩ | ⟨z, -⟩) <;> exact absurd z (by decide))
    · rw [if_pos (Or.inr k)]
      by_cases e : nI q = m.1 70 j
      · rw [if_pos e]
        by_cases hs : bt (m.1 72 j) i = true
        · rw [if_pos hs]; exact new _ (Or.inr ⟨k, Or.inl rfl⟩)
        · rw [if_neg hs, if_neg (by rw [k]; decide), nI_1]; exact new _ (Or.inr ⟨k, Or.inr rfl⟩)
      · rw [if_neg e]
        exact stay (by
          unfold ends
          rintro (⟨-, z⟩ | ⟨z, -⟩)
          · exact e z.symm
          · rw [k] at z; exact absurd z (by decide))
    · have n01 : ¬ (m.1 68 j = 0 ∨ m.1 68 j = 1) := by rw [k]; decide
      rw [if_neg n01, if_pos k]
      obtain ⟨b, hbl, eb, hbb, hne⟩ := h.br j hj' (Or.inl k)
      by_cases e : nI q = m.1 71 j
      · rw [if_pos e, ea]
        refine ⟨a, Nat.lt_of_lt_of_le ha hm, rfl, (h.tb hj' (by omega)).mpr (Or.inr ⟨hab, ?_⟩)⟩
        unfold ends
        rintro (⟨z, -⟩ | ⟨-, z⟩)
        · rw [k] at z; exact absurd z (by decide)
        · exact hne (by rw [z, ea])
      · rw [if_neg e]
        exact stay (by
          unfold ends
          rintro (⟨z, -⟩ | ⟨-, z⟩)
          · rw [k] at z; exact absurd z (by decide)
          · exact e z.symm)
    · have n01 : ¬ (m.1 68 j = 0 ∨ m.1 68 j = 1) := by rw [k]; decide
      rw [if_neg n01, if_neg (by rw [k]; decide), if_pos k]
      obtain ⟨b, hbl, eb, hbb, hne⟩ := h.br j hj' (Or.inr k)
      have noend : ∀ r, ¬ ends m j r := fun r => by unfold ends; rw [k]; rintro (⟨z, -⟩ | ⟨z, -⟩) <;> exact absurd z (by decide)
      by_cases e : nI q = m.1 70 j ∧ bt (m.1 72 j) i = true
      · rw [if_pos e, eb]
        exact ⟨b, Nat.lt_of_lt_of_le hbl hm, rfl, (h.tb hj' (by omega)).mpr (Or.inr ⟨hbb, noend b⟩)⟩
      · rw [if_neg e]; exact stay (noend q)
    · have n01 : ¬ (m.1 68 j = 0 ∨ m.1 68 j = 1) := by rw [k]; decide
      rw [if_neg n01, if_neg (by rw [k]; decide), if_neg (by rw [k]; decide)]
      exact stay (by unfold ends; rw [k]; rintro (⟨z, -⟩ | ⟨z, -⟩) <;> exact absurd z (by decide))
/-- days of the calls -/
theorem day_of {a : Int32} (h : inR a 0 999) : ∃ k, k ≤ 999 ∧ a = nI k := inR_nat (n := 999) (by decide) h
/-- how many changes up to a day -/
abbrev IHc (m : pMem) (c : Nat) (d : Int32) : Nat := cntD (m.1 69) d c
theorem IH.cle' (h : IH m c g l) (d : Int32) : IHc m c d ≤ c := cntD_le _ _ _
theorem IH.doneBy (h : IH m c g l) (d : Int32) : sX9_doneBy d m = some (nI (IHc m c d)) := p_doneBy h.cle h.c9 d
theorem IH.changesBy (h : IH m c g l) (d : Int32) : sX2_changesBy d m = some (nI (IHc m c d)) := by
  have := p_changesBy h.cle h.c3 (by rw [h.day]; exact h.ds) d
  rw [h.day] at this
  exact this
theorem IH.groundsOf (h : IH m c g l) {j : Nat} (hj : j ≤ c) (a : Int32) : sX9_groundsOf a (nI j) m = some (gof (m.1 74) a j g) := p_groundsOf h.gle (by have := h.cle; omega) h.g9 a
theorem IH.isThere2 (h : IH m c g l) {j : Nat} (hj : j ≤ c) (a : Int32) : sX2_isThere a (nI j) m = some (bI (isTh (m.1 75 j) a l)) := by
  rw [p_isThere2 h.lle (by have := h.cle; omega) h.l3 a, h.thr]
theorem IH.isThere9 (h : IH m c g l) {j : Nat} (hj : j ≤ c) (a : Int32) : sX9_isThere a (nI j) m = some (bI (isTh (m.1 75 j) a l)) :=
  p_isThere9 h.lle (by have := h.cle; omega) (fun i h1 h2 => h.tzf hj h2 (by have := lnF_mono (m.1 68) hj; have := h.ll; omega)) a
theorem IH.lnl (h : IH m c g l) {j : Nat} (hj : j ≤ c) : lnF (m.1 68) j ≤ l := by rw [h.ll]; exact lnF_mono _ hj
theorem IH.ownerOf (h : IH m c g l) {j i : Nat} (hj : j ≤ c) (hi : i < g) : ∃ q, q < l ∧ m.1 74 (8 * j + i) = nI q ∧ bt (m.1 75 j) q = true ∧ sX2_ownerOf (nI i) (nI j) m = some (nI q) := by
  have hg := h.gle
  have hc := h.cle
  obtain ⟨q, h1, h2, h3⟩ := h.ow hj (i := i) (by omega)
  have h4 : q < l := Nat.lt_of_lt_of_le h1 (h.lnl hj)
  exact ⟨q, h4, h2, h3, p_ownerOf h.lle (by omega) hi hg h.l3 h4 (fun r hr => h.rows j hj r (by have := h.lle; omega)) h2⟩
end HH
