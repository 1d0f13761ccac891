/-! who is bound by rank -/
/-- said the same land in one of the first n changes -/
def sdB (m : pMem) (q : Int32) : Nat → Bool
  | 0 => false
  | n + 1 => sdB m q n || decide (m.1 68 n = 4 ∧ m.1 70 n = q)
theorem sdB_s (m : pMem) (q : Int32) (n : Nat) : sdB m q (n + 1) = (sdB m q n || decide (m.1 68 n = 4 ∧ m.1 70 n = q)) := rfl
theorem sdB_up {m : pMem} {q : Int32} {i : Nat} : ∀ {n : Nat}, i ≤ n → sdB m q i = true → sdB m q n = true
  | 0, h, hi => by rw [show i = 0 by omega] at hi; exact hi
  | n + 1, h, hi => by
    rcases Nat.lt_or_ge n i with z | z
    · rw [show n + 1 = i by omega]; exact hi
    · rw [sdB_s, sdB_up z hi]; rfl
theorem s2_s (f : Nat) : sX2_saidSame_l2 (f + 1) = sX2_saidSame_b2 (sX2_saidSame_l2 f) := rfl
theorem k3_s (f : Nat) : sX3_boundByRank_l3 (f + 1) = sX3_boundByRank_b3 (sX3_boundByRank_l3 f) := rfl
theorem k9_s (f : Nat) : sX9_byRank_l3 (f + 1) = sX9_byRank_b3 (sX9_byRank_l3 f) := rfl
theorem k44_s (k3 : Int32 → Int32 → Int32 → Int32 → pMem → Option Int32) (f : Nat) : sX9_byRank_l44 k3 (f + 1) = sX9_byRank_b44 k3 (sX9_byRank_l44 k3 f) := rfl
/-- one bit of a number -/
theorem b_only (x : Int32) {n : Nat} (hn : n < 31) : x &&& ((1 : Int32) <<< (nI n &&& 31)) = if bt x n = true then (1 : Int32) <<< (nI n &&& 31) else 0 := by
  apply b_ext
  intro i hi
  rw [b_and, b_one n (by omega) hi]
  by_cases e : bt x n = true
  · rw [if_pos e, b_one n (by omega) hi]
    by_cases f : i = n
    · rw [f, e]; simp
    · simp [f]
  · rw [if_neg e, b_0]
    by_cases f : i = n
    · rw [f]; simp only [Bool.not_eq_true] at e; rw [e]; rfl
    · simp [f]
theorem l_said {m : pMem} {c : Nat} (hc : c ≤ 12) (e1 : m.1 24 = m.1 68) (e2 : m.1 26 = m.1 70) (q : Int32) : ∀ (j i f : Nat), i + j = c → j < f → sdB m q i = false → sX2_saidSame_l2 f q (nI c) (nI i) m = some (bI (sdB m q c = true)) := by
  intro j
  induction j with
  | zero =>
    intro i f hij hf hs
    obtain ⟨f, rfl⟩ := fuel_s (Nat.lt_of_le_of_lt (Nat.zero_le _) hf)
    have : i = c := by omega
    subst this
    rw [s2_s]
    unfold sX2_saidSame_b2
    rw [if_pos (nI_le (Nat.le_refl _) (by omega)), bI_f (by rw [hs]; decide)]
  | succ j ih =>
    intro i f hij hf hs
    obtain ⟨f, rfl⟩ := fuel_s (Nat.lt_of_le_of_lt (Nat.zero_le _) hf)
    have e := ih (i + 1) f (by omega) (by omega)
    rw [sdB_s, hs] at e
    rw [s2_s]
    unfold sX2_saidSame_b2 sX2_saidSame_b29
    rw [if_neg (nI_ge (by omega) (by omega)), e1, e2]
    simp only [if_neg (noob (i := i) (n := 12) (by omega) (by omega)), nI_clamp (show i < 2 ^ 31 by omega), nI_1]
    by_cases a1 : m.1 68 i = 4
    · rw [if_neg (not_not_intro a1)]
      by_cases a2 : m.1 70 i = q
      · rw [if_neg (not_not_intro a2)]
        rw [bI_t (sdB_up (i := i + 1) (n := c) (by omega) (by rw [sdB_s]; simp [a1, a2]))]
      · rw [if_pos a2]
        exact e (by simp [a2])
    · rw [if_pos a1]
      exact e (by simp [a1])
theorem l_said9 {m : pMem} {c v : Nat} (hc : c ≤ 12) (hv : v ≤ 24) (h9 : m.1 9 39 = nI v) (k3 : Int32 → Int32 → Int32 → Int32 → pMem → Option Int32) (l1 d : Int32) (q : Nat) : ∀ (j i f : Nat), i + j = c → j < f → ∀ x, x = bI (sdB m (nI q) i = true) → sX9_byRank_l44 k3 f l1 (nI c) d (nI q) x (nI i) m = (if sdB m (nI q) c = true ∧ ¬ vS m v (nI q) d 6 ≤ 0 then some ((1 : Int32) <<< (nI q &&& 31)) else k3 l1 (nI c) d (nI (q + 1)) m) := by
  intro j
  induction j with
  | zero =>
    intro i f hij hf x hx
    obtain ⟨f, rfl⟩ := fuel_s (Nat.lt_of_le_of_lt (Nat.zero_le _) hf)
    have : i = c := by omega
    subst this
    rw [k44_s]
    unfold sX9_byRank_b44 sX9_byRank_b111
    rw [if_pos (nI_le (Nat.le_refl _) (by omega)), nI_1, hx]
    by_cases a : sdB m (nI q) i = true
    · rw [bI_t a, if_neg n10, p_rec9 hv h9, cbR_some]
      by_cases b : vS m v (nI q) d 6 ≤ 0
      · rw [bI_f (not_not_intro b), if_pos rfl, if_neg (fun z => z.2 b)]
      · rw [bI_t b, if_neg n10, if_pos ⟨a, b⟩]
    · rw [bI_f a, if_pos rfl, if_neg (fun z => a z.1)]
  | succ j ih =>
    intro i f hij hf x hx
    obtain ⟨f, rfl⟩ := fuel_s (Nat.lt_of_le_of_lt (Nat.zero_le _) hf)
    have e := ih (i + 1) f (by omega) (by omega)
    rw [k44_s]
    unfold sX9_byRank_b44 sX9_byRank_b78 sX9_byRank_b82 sX9_byRank_b83
    rw [if_neg (nI_ge (by omega) (by omega)), nI_1 i, hx]
    by_cases a : sdB m (nI q) i = true
    · rw [bI_t a, if_pos n10]
      exact e 1 (bI_t (by rw [sdB_s, a]; rfl)).symm
    · rw [bI_f a, if_neg nn0]
      simp only [if_neg (noob (i := i) (n := 12) (by omega) (by omega)), nI_clamp (show i < 2 ^ 31 by omega)]
      have a' : sdB m (nI q) i = false := by simpa using a
      by_cases a1 : m.1 68 i = 4
      · rw [if_neg (not_not_intro a1)]
        by_cases a2 : m.1 70 i = nI q
        · rw [if_neg (not_not_intro a2)]
          exact e 1 (bI_t (by rw [sdB_s]; simp [a1, a2])).symm
        · rw [if_pos a2]
          exact e 0 (bI_f (by rw [sdB_s, a']; simp [a2])).symm
      · rw [if_pos a1]
        exact e 0 (bI_f (by rw [sdB_s, a']; simp [a1])).symm
