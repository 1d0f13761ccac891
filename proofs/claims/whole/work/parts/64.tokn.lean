/-! tokens -/
def isLb (x : Int32) : Bool := decide (inR x 97 122)
def isDb (x : Int32) : Bool := decide (inR x 48 57)
def isBb (x : Int32) : Bool := decide (x = 32)
/-- where a row of such signs ends -/
def spn (P : Int32 → Bool) (T : Nat → Int32) : Nat → Nat → Nat
  | 0, p => p
  | j + 1, p => if P (T p) = true then spn P T j (p + 1) else p
theorem spn_s (P : Int32 → Bool) (T : Nat → Int32) (j p : Nat) : spn P T (j + 1) p = if P (T p) = true then spn P T j (p + 1) else p := rfl
theorem spn_r (P : Int32 → Bool) (T : Nat → Int32) : ∀ j p, p ≤ spn P T j p ∧ spn P T j p ≤ p + j
  | 0, p => ⟨Nat.le_refl _, Nat.le_refl _⟩
  | j + 1, p => by
    have := spn_r P T j (p + 1)
    rw [spn_s]
    split <;> omega
theorem spn_all (P : Int32 → Bool) (T : Nat → Int32) : ∀ j p q, p ≤ q → q < spn P T j p → P (T q) = true
  | 0, p, q, h1, h2 => absurd h2 (Nat.not_lt.mpr h1)
  | j + 1, p, q, h1, h2 => by
    rw [spn_s] at h2
    by_cases z : P (T p) = true
    · rw [if_pos z] at h2
      rcases Nat.lt_or_ge p q with y | y
      · exact spn_all P T j (p + 1) q y h2
      · rw [show q = p by omega]; exact z
    · rw [if_neg z] at h2
      omega
theorem spn_stop (P : Int32 → Bool) (T : Nat → Int32) : ∀ j p, spn P T j p < p + j → ¬ P (T (spn P T j p)) = true
  | 0, p, h => absurd h (Nat.lt_irrefl _)
  | j + 1, p, h => by
    rw [spn_s] at h ⊢
    by_cases z : P (T p) = true
    · rw [if_pos z] at h ⊢
      exact spn_stop P T j (p + 1) (by omega)
    · rw [if_neg z]
      exact z
/-- the token behind a place: where it begins, where it ends -/
def tkS (T : Nat → Int32) (b e : Nat) : Nat := spn isBb T (b - e) e
def tkL (T : Nat → Int32) (b e : Nat) : Nat := spn isLb T (b - tkS T b e) (tkS T b e)
def tkD (T : Nat → Int32) (b e : Nat) : Nat := spn isDb T (b - tkS T b e) (tkS T b e)
def tkE (T : Nat → Int32) (b e : Nat) : Nat := if tkS T b e < tkL T b e then tkL T b e else if tkD T b e = tkS T b e ∧ tkS T b e < b then tkS T b e + 1 else tkD T b e
theorem tkS_r {T : Nat → Int32} {b e : Nat} (h : e ≤ b) : e ≤ tkS T b e ∧ tkS T b e ≤ b := by
  have := spn_r isBb T (b - e) e
  unfold tkS
  omega
theorem tkL_r {T : Nat → Int32} {b e : Nat} (h : e ≤ b) : tkS T b e ≤ tkL T b e ∧ tkL T b e ≤ b := by
  have := tkS_r (T := T) h
  have := spn_r isLb T (b - tkS T b e) (tkS T b e)
  unfold tkL
  omega
theorem tkD_r {T : Nat → Int32} {b e : Nat} (h : e ≤ b) : tkS T b e ≤ tkD T b e ∧ tkD T b e ≤ b := by
  have := tkS_r (T := T) h
  have := spn_r isDb T (b - tkS T b e) (tkS T b e)
  unfold tkD
  omega
theorem tkE_r {T : Nat → Int32} {b e : Nat} (h : e ≤ b) : tkS T b e ≤ tkE T b e ∧ tkE T b e ≤ b := by
  have := tkS_r (T := T) h
  have := tkL_r (T := T) h
  have := tkD_r (T := T) h
  unfold tkE
  split
  · omega
  · split <;> omega
theorem p_let (a : Int32) (m : pMem) : sX5_isLetter a m = some (bI (isLb a = true)) := by
  unfold sX5_isLetter sX5_isLetter_b16 sX5_isLetter_b17 isLb bI
  by_cases h1 : a < 97
  · simp [h1, nar0]
  · by_cases h2 : (122 : Int32) < a
    · simp [h1, h2, nar0]
    · simp [h1, h2, nar1]
theorem p_dig (a : Int32) (m : pMem) : sX5_isDigit a m = some (bI (isDb a = true)) := by
  unfold sX5_isDigit sX5_isDigit_b16 sX5_isDigit_b17 isDb bI
  by_cases h1 : a < 48
  · simp [h1, nar0]
  · by_cases h2 : (57 : Int32) < a
    · simp [h1, h2, nar0]
    · simp [h1, h2, nar1]
/-! the class's token -/
def sM (m : pMem) (s e : Int32) : pMem := up1 m 6 (fun j => if j = 3 then s else if j = 4 then e else m.1 6 j)
theorem sM_k (m : pMem) (s e : Int32) {k : Nat} (h : k ≠ 6) : (sM m s e).1 k = m.1 k := if_neg h
theorem sM_6 (m : pMem) (s e : Int32) (j : Nat) : (sM m s e).1 6 j = if j = 3 then s else if j = 4 then e else m.1 6 j := rfl
theorem sM_3 (m : pMem) (s e x : Int32) : st1 (sM m s e) 6 3 x = sM m x e := by
  refine Prod.ext (funext fun k => ?_) rfl
  by_cases hk : k = 6
  · subst hk
    funext j
    rw [st1_at, sM_6, sM_6]
    by_cases hj : j = 3
    · rw [if_pos hj, if_pos hj]
    · rw [if_neg hj, if_neg hj, if_neg hj]
  · rw [st1_ne _ _ _ _ hk, sM_k _ _ _ hk, sM_k _ _ _ hk]
theorem sM_4 (m : pMem) (s e x : Int32) : st1 (sM m s e) 6 4 x = sM m s x := by
  refine Prod.ext (funext fun k => ?_) rfl
  by_cases hk : k = 6
  · subst hk
    funext j
    rw [st1_at, sM_6, sM_6]
    by_cases hj : j = 3
    · rw [if_neg (by omega), if_pos hj, if_pos hj]
    · rw [if_neg hj, if_neg hj]
      by_cases h2 : j = 4
      · rw [if_pos h2, if_pos h2]
      · rw [if_neg h2, if_neg h2, if_neg h2]
  · rw [st1_ne _ _ _ _ hk, sM_k _ _ _ hk, sM_k _ _ _ hk]
theorem sM_id (m : pMem) : sM m (m.1 6 3) (m.1 6 4) = m := by
  refine Prod.ext (funext fun k => ?_) rfl
  by_cases hk : k = 6
  · subst hk
    funext j
    rw [sM_6]
    by_cases h1 : j = 3
    · rw [if_pos h1, h1]
    · rw [if_neg h1]
      by_cases h2 : j = 4
      · rw [if_pos h2, h2]
      · rw [if_neg h2]
  · exact sM_k _ _ _ hk
theorem n8_s (f : Nat) : sX5_nextToken_l8 (f + 1) = sX5_nextToken_b8 (sX5_nextToken_l8 f) := rfl
theorem n54_s (f : Nat) : sX5_nextToken_l54 (f + 1) = sX5_nextToken_b54 (sX5_nextToken_l54 f) := rfl
theorem n105_s (f : Nat) : sX5_nextToken_l105 (f + 1) = sX5_nextToken_b105 (sX5_nextToken_l105 f) := rfl
section TK
variable {m : pMem} {b : Nat} {T : Nat → Int32}
theorem l_n8 (h1 : m.1 6 1 = nI b) (hb : b ≤ 160) (hT : m.1 52 = T) (e : Int32) : ∀ (j p f : Nat), p + j = b → j < f → sX5_nextToken_l8 f (sM m (nI p) e) = sX5_nextToken_b46 (sM m (nI (spn isBb T j p)) e) := by
  intro j
  induction j with
  | zero =>
    intro p f hij hf
    obtain ⟨f, rfl⟩ := fuel_s (Nat.lt_of_le_of_lt (Nat.zero_le _) hf)
    have : p = b := by omega
    subst this
    rw [n8_s]
    unfold sX5_nextToken_b8
    rw [show (sM m (nI p) e).1 6 1 = m.1 6 1 from rfl, show (sM m (nI p) e).1 6 3 = nI p from rfl, h1, if_pos (nI_le (Nat.le_refl _) (by omega))]
    rfl
  | succ j ih =>
    intro p f hij hf
    obtain ⟨f, rfl⟩ := fuel_s (Nat.lt_of_le_of_lt (Nat.zero_le _) hf)
    rw [n8_s, spn_s]
    unfold sX5_nextToken_b8
    rw [show (sM m (nI p) e).1 6 1 = m.1 6 1 from rfl, show (sM m (nI p) e).1 6 3 = nI p from rfl, h1, if_neg (nI_ge (by omega) (by omega)), if_neg (noob (by omega) (by omega)), nI_clamp (by omega), sM_k m _ _ (show 52 ≠ 6 by omega), hT, nI_1, sM_3, bnd_eq]
    unfold isBb
    by_cases z : T p = 32
    · rw [if_neg (not_not_intro z), if_pos (decide_eq_true z)]
      exact ih (p + 1) f (by omega) (by omega)
    · rw [if_pos z, if_neg (fun y => z (of_decide_eq_true y))]
theorem l_n54 (h1 : m.1 6 1 = nI b) (hb : b ≤ 160) (hT : m.1 52 = T) (s : Int32) : ∀ (j p f : Nat), p + j = b → j < f → sX5_nextToken_l54 f (sM m s (nI p)) = sX5_nextToken_b93 (sM m s (nI (spn isLb T j p))) := by
  intro j
  induction j with
  | zero =>
    intro p f hij hf
    obtain ⟨f, rfl⟩ := fuel_s (Nat.lt_of_le_of_lt (Nat.zero_le _) hf)
    have : p = b := by omega
    subst this
    rw [n54_s]
    unfold sX5_nextToken_b54
    rw [show (sM m s (nI p)).1 6 1 = m.1 6 1 from rfl, show (sM m s (nI p)).1 6 4 = nI p from rfl, h1, if_pos (nI_le (Nat.le_refl _) (by omega))]
    rfl
  | succ j ih =>
    intro p f hij hf
    obtain ⟨f, rfl⟩ := fuel_s (Nat.lt_of_le_of_lt (Nat.zero_le _) hf)
    rw [n54_s, spn_s]
    unfold sX5_nextToken_b54
    rw [show (sM m s (nI p)).1 6 1 = m.1 6 1 from rfl, show (sM m s (nI p)).1 6 4 = nI p from rfl, h1, if_neg (nI_ge (by omega) (by omega)), if_neg (noob (by omega) (by omega)), nI_clamp (by omega), sM_k m _ _ (show 52 ≠ 6 by omega), hT, p_let, cbR_some, nI_1, sM_4, bnd_eq]
    by_cases z : isLb (T p) = true
    · rw [bI_t z, if_neg n10, if_pos z]
      exact ih (p + 1) f (by omega) (by omega)
    · rw [bI_f z, if_pos rfl, if_neg z]
theorem l_n105 (h1 : m.1 6 1 = nI b) (hb : b ≤ 160) (hT : m.1 52 = T) (s : Int32) : ∀ (j p f : Nat), p + j = b → j < f → sX5_nextToken_l105 f (sM m s (nI p)) = sX5_nextToken_b144 (sM m s (nI (spn isDb T j p))) := by
  intro j
  induction j with
  | zero =>
    intro p f hij hf
    obtain ⟨f, rfl⟩ := fuel_s (Nat.lt_of_le_of_lt (Nat.zero_le _) hf)
    have : p = b := by omega
    subst this
    rw [n105_s]
    unfold sX5_nextToken_b105
    rw [show (sM m s (nI p)).1 6 1 = m.1 6 1 from rfl, show (sM m s (nI p)).1 6 4 = nI p from rfl, h1, if_pos (nI_le (Nat.le_refl _) (by omega))]
    rfl
  | succ j ih =>
    intro p f hij hf
    obtain ⟨f, rfl⟩ := fuel_s (Nat.lt_of_le_of_lt (Nat.zero_le _) hf)
    rw [n105_s, spn_s]
    unfold sX5_nextToken_b105
    rw [show (sM m s (nI p)).1 6 1 = m.1 6 1 from rfl, show (sM m s (nI p)).1 6 4 = nI p from rfl, h1, if_neg (nI_ge (by omega) (by omega)), if_neg (noob (by omega) (by omega)), nI_clamp (by omega), sM_k m _ _ (show 52 ≠ 6 by omega), hT, p_dig, cbR_some, nI_1, sM_4, bnd_eq]
    by_cases z : isDb (T p) = true
    · rw [bI_t z, if_neg n10, if_pos z]
      exact ih (p + 1) f (by omega) (by omega)
    · rw [bI_f z, if_pos rfl, if_neg z]
theorem p_tok5 (h1 : m.1 6 1 = nI b) (hb : b ≤ 160) (hT : m.1 52 = T) {e : Nat} (he : e ≤ b) (s0 : Int32) : sX5_nextToken (sM m s0 (nI e)) = some (0, sM m (nI (tkS T b e)) (nI (tkE T b e))) := by
  have rS := tkS_r (T := T) he
  have rL := tkL_r (T := T) he
  have rD := tkD_r (T := T) he
  have z1 := l_n8 h1 hb hT (nI e) (b - e) e 5000 (by omega) (by omega)
  have z2 := l_n54 h1 hb hT (nI (tkS T b e)) (b - tkS T b e) (tkS T b e) 5000 (by omega) (by omega)
  have z3 := l_n105 h1 hb hT (nI (tkS T b e)) (b - tkS T b e) (tkS T b e) 5000 (by omega) (by omega)
  unfold sX5_nextToken
  rw [bnd_eq, show (sM m s0 (nI e)).1 6 4 = nI e from rfl, sM_3, z1]
  unfold sX5_nextToken_b46
  rw [show (sM m (nI (spn isBb T (b - e) e)) (nI e)).1 6 3 = nI (tkS T b e) from rfl, sM_4, bnd_eq, show spn isBb T (b - e) e = tkS T b e from rfl, z2]
  unfold sX5_nextToken_b93 tkE
  rw [show spn isLb T (b - tkS T b e) (tkS T b e) = tkL T b e from rfl, show (sM m (nI (tkS T b e)) (nI (tkL T b e))).1 6 4 = nI (tkL T b e) from rfl, show (sM m (nI (tkS T b e)) (nI (tkL T b e))).1 6 3 = nI (tkS T b e) from rfl]
  by_cases a1 : tkS T b e < tkL T b e
  · rw [if_neg (nI_ge a1 (by omega)), if_pos a1]
  · have eL : tkL T b e = tkS T b e := by omega
    rw [if_pos (nI_le (by omega) (by omega)), if_neg a1, eL, z3]
    unfold sX5_nextToken_b144 sX5_nextToken_b176
    rw [show spn isDb T (b - tkS T b e) (tkS T b e) = tkD T b e from rfl, show (sM m (nI (tkS T b e)) (nI (tkD T b e))).1 6 4 = nI (tkD T b e) from rfl, show (sM m (nI (tkS T b e)) (nI (tkD T b e))).1 6 3 = nI (tkS T b e) from rfl, show (sM m (nI (tkS T b e)) (nI (tkD T b e))).1 6 1 = m.1 6 1 from rfl, h1, bnd_eq, sM_4, nI_1]
    by_cases a2 : tkD T b e = tkS T b e
    · rw [if_neg (not_not_intro (show nI (tkD T b e) = nI (tkS T b e) by rw [a2]))]
      by_cases a3 : tkS T b e < b
      · rw [if_neg (nI_ge (by omega) (by omega)), if_pos ⟨a2, a3⟩, a2]
      · rw [if_pos (nI_le (by omega) (by omega)), if_neg (fun y => a3 y.2)]
    · rw [if_pos (fun y => a2 (nI_inj (by omega) (by omega) y)), if_neg (fun y => a2 y.1)]
end TK
