/-! the other side's token -/
def nM (m : pMem) (p a d n : Int32) (t : Int64) : pMem := (fun q => if q = 9 then (fun j => if j = 17 then p else if j = 18 then a else if j = 20 then d else if j = 21 then n else m.1 9 j) else m.1 q, fun q => if q = 9 then vp_updL (m.2 9) 19 t else m.2 q)
theorem nM_k (m : pMem) (p a d n : Int32) (t : Int64) {k : Nat} (h : k ≠ 9) : (nM m p a d n t).1 k = m.1 k := if_neg h
theorem nM_9 (m : pMem) (p a d n : Int32) (t : Int64) (j : Nat) : (nM m p a d n t).1 9 j = if j = 17 then p else if j = 18 then a else if j = 20 then d else if j = 21 then n else m.1 9 j := rfl
theorem nM_17 (m : pMem) (p a d n : Int32) (t : Int64) (x : Int32) : st1 (nM m p a d n t) 9 17 x = nM m x a d n t := by
  refine Prod.ext (funext fun k => ?_) rfl
  by_cases hk : k = 9
  · subst hk
    funext j
    rw [st1_at, nM_9, nM_9]
    by_cases h : j = 17
    · subst h; simp
    · simp [h]
  · rw [st1_ne _ _ _ _ hk, nM_k _ _ _ _ _ _ hk, nM_k _ _ _ _ _ _ hk]
theorem nM_18 (m : pMem) (p a d n : Int32) (t : Int64) (x : Int32) : st1 (nM m p a d n t) 9 18 x = nM m p x d n t := by
  refine Prod.ext (funext fun k => ?_) rfl
  by_cases hk : k = 9
  · subst hk
    funext j
    rw [st1_at, nM_9, nM_9]
    by_cases h : j = 18
    · subst h; simp
    · simp [h]
  · rw [st1_ne _ _ _ _ hk, nM_k _ _ _ _ _ _ hk, nM_k _ _ _ _ _ _ hk]
theorem nM_20 (m : pMem) (p a d n : Int32) (t : Int64) (x : Int32) : st1 (nM m p a d n t) 9 20 x = nM m p a x n t := by
  refine Prod.ext (funext fun k => ?_) rfl
  by_cases hk : k = 9
  · subst hk
    funext j
    rw [st1_at, nM_9, nM_9]
    by_cases h : j = 20
    · subst h; simp
    · simp [h]
  · rw [st1_ne _ _ _ _ hk, nM_k _ _ _ _ _ _ hk, nM_k _ _ _ _ _ _ hk]
theorem nM_21 (m : pMem) (p a d n : Int32) (t : Int64) (x : Int32) : st1 (nM m p a d n t) 9 21 x = nM m p a d x t := by
  refine Prod.ext (funext fun k => ?_) rfl
  by_cases hk : k = 9
  · subst hk
    funext j
    rw [st1_at, nM_9, nM_9]
    by_cases h : j = 21
    · subst h; simp
    · simp [h]
  · rw [st1_ne _ _ _ _ hk, nM_k _ _ _ _ _ _ hk, nM_k _ _ _ _ _ _ hk]
theorem updL_updL (f : Nat → Int64) (n : Nat) (x y : Int64) : vp_updL (vp_updL f n x) n y = vp_updL f n y := by
  funext q
  unfold vp_updL
  by_cases z : q = n
  · rw [if_pos z, if_pos z]
  · rw [if_neg z, if_neg z, if_neg z]
theorem nM_t (m : pMem) (p a d n : Int32) (t x : Int64) : st2 (nM m p a d n t) 9 19 x = nM m p a d n x := by
  refine Prod.ext rfl (funext fun k => ?_)
  rw [st2_2]
  by_cases hk : k = 9
  · subst hk
    rw [if_pos rfl]
    exact updL_updL (m.2 9) 19 t x
  · rw [if_neg hk]
    show (if k = 9 then _ else m.2 k) = (if k = 9 then _ else m.2 k)
    rw [if_neg hk, if_neg hk]
theorem nM_tk (m : pMem) (p a d n : Int32) (t : Int64) : (nM m p a d n t).2 9 19 = t := by
  show vp_updL (m.2 9) 19 t 19 = t
  exact if_pos rfl
theorem nM_id (m : pMem) : nM m (m.1 9 17) (m.1 9 18) (m.1 9 20) (m.1 9 21) (m.2 9 19) = m := by
  refine Prod.ext (funext fun k => ?_) (funext fun k => ?_)
  · by_cases hk : k = 9
    · subst hk
      funext j
      rw [nM_9]
      by_cases h1 : j = 17
      · rw [if_pos h1, h1]
      · rw [if_neg h1]
        by_cases h2 : j = 18
        · rw [if_pos h2, h2]
        · rw [if_neg h2]
          by_cases h3 : j = 20
          · rw [if_pos h3, h3]
          · rw [if_neg h3]
            by_cases h4 : j = 21
            · rw [if_pos h4, h4]
            · rw [if_neg h4]
    · exact nM_k _ _ _ _ _ _ hk
  · show (if k = 9 then vp_updL (m.2 9) 19 (m.2 9 19) else m.2 k) = m.2 k
    by_cases hk : k = 9
    · rw [if_pos hk, hk]
      funext j
      unfold vp_updL
      by_cases z : j = 19
      · rw [if_pos z, z]
      · rw [if_neg z]
    · rw [if_neg hk]
/-- letters and digits read as numbers -/
def codeN (T : Nat → Int32) (s : Nat) : Nat → Nat
  | 0 => 0
  | i + 1 => 27 * codeN T s i + (nv (T (s + i)) - 96)
theorem codeN_s (T : Nat → Int32) (s i : Nat) : codeN T s (i + 1) = 27 * codeN T s i + (nv (T (s + i)) - 96) := rfl
def numN (T : Nat → Int32) (s : Nat) : Nat → Nat
  | 0 => 0
  | i + 1 => 10 * numN T s i + (nv (T (s + i)) - 48)
theorem numN_s (T : Nat → Int32) (s i : Nat) : numN T s (i + 1) = 10 * numN T s i + (nv (T (s + i)) - 48) := rfl
def tcode (T : Nat → Int32) (b e : Nat) : Int64 :=
  if tkS T b e = b then -2
  else if isLb (T (tkS T b e)) = true then (if tkL T b e - tkS T b e ≤ 9 then lN (codeN T (tkS T b e) (tkL T b e - tkS T b e)) else -4)
  else if isDb (T (tkS T b e)) = true then (if tkD T b e - tkS T b e ≤ 3 then -1 else -4)
  else if T (tkS T b e) = 59 then -3 else -4
theorem isLb_n {x : Int32} (h : isLb x = true) : ∃ k, 97 ≤ k ∧ k ≤ 122 ∧ x = nI k := by
  unfold isLb at h
  have h := of_decide_eq_true h
  obtain ⟨k, hk, rfl⟩ := inR_nat (n := 122) (by decide) (show inR x 0 122 from ⟨fun z => h.1 (Int32.lt_trans z (by decide)), h.2⟩)
  refine ⟨k, ?_, hk, rfl⟩
  rcases Nat.lt_or_ge k 97 with z | z
  · exact absurd (nI_lt (b := 97) z (by omega)) h.1
  · exact z
theorem isDb_n {x : Int32} (h : isDb x = true) : ∃ k, 48 ≤ k ∧ k ≤ 57 ∧ x = nI k := by
  unfold isDb at h
  have h := of_decide_eq_true h
  obtain ⟨k, hk, rfl⟩ := inR_nat (n := 57) (by decide) (show inR x 0 57 from ⟨fun z => h.1 (Int32.lt_trans z (by decide)), h.2⟩)
  refine ⟨k, ?_, hk, rfl⟩
  rcases Nat.lt_or_ge k 48 with z | z
  · exact absurd (nI_lt (b := 48) z (by omega)) h.1
  · exact z
theorem k_64 : ∀ k, k < 200 → (nI k).toInt64 = lN k := by decide +kernel
theorem code_step {c k : Nat} (h1 : 97 ≤ k) (h2 : k ≤ 122) : ((27 : Int64) * lN c + (nI k).toInt64) - (96 : Int64) = lN (27 * c + (k - 96)) := by
  rw [k_64 k (by omega), show (27 : Int64) = lN 27 from rfl, lN_mul, lN_add, show (96 : Int64) = lN 96 from rfl, lN_sub (by omega)]
  congr 1
  omega
theorem nI_sub' {a c : Nat} (h : c ≤ a) (ha : a < 2 ^ 31) : nI a - nI c = nI (a - c) := by
  obtain ⟨k, rfl⟩ : ∃ k, a = k + c := ⟨a - c, by omega⟩
  rw [← nI_add, Int32.add_sub_cancel, Nat.add_sub_cancel]
theorem num_step {c k : Nat} (h1 : 48 ≤ k) (h2 : k ≤ 57) (hc : c < 2 ^ 20) : ((10 : Int32) * nI c + nI k) - (48 : Int32) = nI (10 * c + (k - 48)) := by
  rw [show (10 : Int32) = nI 10 from rfl, nI_mul, nI_add, show (48 : Int32) = nI 48 from rfl, nI_sub' (by omega) (by omega)]
  congr 1
  omega
theorem spn_pos {P : Int32 → Bool} {T : Nat → Int32} {b s : Nat} (h : s < b) (hp : P (T s) = true) : s < spn P T (b - s) s := by
  obtain ⟨k, hk⟩ : ∃ k, b - s = k + 1 := ⟨b - s - 1, by omega⟩
  rw [hk, spn_s, if_pos hp]
  exact (spn_r P T k (s + 1)).1
theorem spn_zero {P : Int32 → Bool} {T : Nat → Int32} {s : Nat} (hp : ¬ P (T s) = true) : ∀ j, spn P T j s = s
  | 0 => rfl
  | j + 1 => by rw [spn_s, if_neg hp]
theorem p_inL (x : Int32) (m : pMem) : sX9_in x 97 122 m = some (bI (isLb x = true)) := by
  rw [p_in]
  exact congrArg some (bI_congr (by unfold isLb; exact decide_eq_true_iff.symm))
theorem p_inD (x : Int32) (m : pMem) : sX9_in x 48 57 m = some (bI (isDb x = true)) := by
  rw [p_in]
  exact congrArg some (bI_congr (by unfold isDb; exact decide_eq_true_iff.symm))
theorem m0_s (f : Nat) : sX9_nextToken_l0 (f + 1) = sX9_nextToken_b0 (sX9_nextToken_l0 f) := rfl
theorem m101_s (f : Nat) : sX9_nextToken_l101 (f + 1) = sX9_nextToken_b101 (sX9_nextToken_l101 f) := rfl
theorem m241_s (f : Nat) : sX9_nextToken_l241 (f + 1) = sX9_nextToken_b241 (sX9_nextToken_l241 f) := rfl
section TM
variable {m : pMem} {b : Nat} {T : Nat → Int32}
theorem l_m0 (h1 : m.1 9 15 = nI b) (hb : b ≤ 160) (hT : m.1 76 = T) (a d n : Int32) (t : Int64) : ∀ (j p f : Nat), p + j = b → j < f → sX9_nextToken_l0 f (nM m (nI p) a d n t) = sX9_nextToken_b38 (nM m (nI (spn isBb T j p)) a d n t) := by
  intro j
  induction j with
  | zero =>
    intro p f hij hf
    obtain ⟨f, rfl⟩ := fuel_s (Nat.lt_of_le_of_lt (Nat.zero_le _) hf)
    have : p = b := by omega
    subst this
    rw [m0_s]
    unfold sX9_nextToken_b0
    rw [show (nM m (nI p) a d n t).1 9 15 = m.1 9 15 from rfl, show (nM m (nI p) a d n t).1 9 17 = nI p from rfl, h1, if_pos (nI_le (Nat.le_refl _) (by omega))]
    rfl
  | succ j ih =>
    intro p f hij hf
    obtain ⟨f, rfl⟩ := fuel_s (Nat.lt_of_le_of_lt (Nat.zero_le _) hf)
    rw [m0_s, spn_s]
    unfold sX9_nextToken_b0
    rw [show (nM m (nI p) a d n t).1 9 15 = m.1 9 15 from rfl, show (nM m (nI p) a d n t).1 9 17 = nI p from rfl, h1, if_neg (nI_ge (by omega) (by omega)), if_neg (noob (by omega) (by omega)), nI_clamp (by omega), nM_k m _ _ _ _ _ (show 76 ≠ 9 by omega), hT, nI_1, nM_17, bnd_eq]
    unfold isBb
    by_cases z : T p = 32
    · rw [if_neg (not_not_intro z), if_pos (decide_eq_true z)]
      exact ih (p + 1) f (by omega) (by omega)
    · rw [if_pos z, if_neg (fun y => z (of_decide_eq_true y))]
/-- what stands as token when i letters are read -/
def tL9 (T : Nat → Int32) (s i : Nat) : Int64 := if i ≤ 9 then lN (codeN T s i) else -4
theorem l_m101 (h1 : m.1 9 15 = nI b) (hb : b ≤ 160) (hT : m.1 76 = T) {s : Nat} (d n : Int32) : ∀ (j p f : Nat), p + j = b → s ≤ p → j < f → sX9_nextToken_l101 f (nM m (nI p) (nI s) d n (tL9 T s (p - s))) = some (0, nM m (nI (spn isLb T j p)) (nI s) d n (tL9 T s (spn isLb T j p - s))) := by
  have fin : ∀ q, s ≤ q → q ≤ 160 → sX9_nextToken_b191 (nM m (nI q) (nI s) d n (tL9 T s (q - s))) = some (0, nM m (nI q) (nI s) d n (tL9 T s (q - s))) := by
    intro q h2 h3
    unfold sX9_nextToken_b191 sX9_nextToken_b216 sX9_nextToken_b394
    rw [show (nM m (nI q) (nI s) d n (tL9 T s (q - s))).1 9 17 = nI q from rfl, show (nM m (nI q) (nI s) d n (tL9 T s (q - s))).1 9 18 = nI s from rfl, nI_sub' h2 (by omega), nM_tk, nM_t, nM_t, bnd_eq, bnd_eq]
    by_cases z : q - s ≤ 9
    · rw [if_pos (show nI (q - s) ≤ 9 from nI_le (b := 9) z (by omega))]
    · rw [if_neg (show ¬ nI (q - s) ≤ 9 from nI_ge (a := 9) (by omega) (by omega)), show tL9 T s (q - s) = -4 from if_neg z]
  intro j
  induction j with
  | zero =>
    intro p f hij hs hf
    obtain ⟨f, rfl⟩ := fuel_s (Nat.lt_of_le_of_lt (Nat.zero_le _) hf)
    have : p = b := by omega
    subst this
    rw [m101_s]
    unfold sX9_nextToken_b101
    rw [show (nM m (nI p) (nI s) d n (tL9 T s (p - s))).1 9 15 = m.1 9 15 from rfl, show (nM m (nI p) (nI s) d n (tL9 T s (p - s))).1 9 17 = nI p from rfl, h1, if_pos (nI_le (Nat.le_refl _) (by omega))]
    exact fin p hs hb
  | succ j ih =>
    intro p f hij hs hf
    obtain ⟨f, rfl⟩ := fuel_s (Nat.lt_of_le_of_lt (Nat.zero_le _) hf)
    have e := ih (p + 1) f (by omega) (by omega) (by omega)
    rw [m101_s, spn_s]
    unfold sX9_nextToken_b101 sX9_nextToken_b175
    rw [show (nM m (nI p) (nI s) d n (tL9 T s (p - s))).1 9 15 = m.1 9 15 from rfl, show (nM m (nI p) (nI s) d n (tL9 T s (p - s))).1 9 17 = nI p from rfl, show (nM m (nI p) (nI s) d n (tL9 T s (p - s))).1 9 18 = nI s from rfl, h1, if_neg (nI_ge (by omega) (by omega))]
    simp only [if_neg (noob (i := p) (n := 160) (by omega) (by omega)), nI_clamp (show p < 2 ^ 31 by omega), nM_k m _ _ _ _ _ (show 76 ≠ 9 by omega), hT, p_inL, cbR_some, nM_tk, nM_t, bnd_eq, nI_sub' hs (show p < 2 ^ 31 by omega)]
    by_cases z : isLb (T p) = true
    · obtain ⟨k, k1, k2, ek⟩ := isLb_n z
      rw [bI_t z, if_neg n10, if_pos z]
      by_cases y : 9 ≤ p - s
      · rw [if_pos (show (9 : Int32) ≤ nI (p - s) from nI_le (a := 9) y (by omega)), show (nM m (nI p) (nI s) d n (-4)).1 9 17 = nI p from rfl, nI_1, nM_17]
        rw [show tL9 T s (p + 1 - s) = -4 from if_neg (by omega)] at e
        exact e
      · rw [if_neg (show ¬ (9 : Int32) ≤ nI (p - s) from nI_ge (b := 9) (by omega) (by omega)), show tL9 T s (p - s) = lN (codeN T s (p - s)) from if_pos (by omega), ek, code_step k1 k2]
        rw [show tL9 T s (p + 1 - s) = lN (codeN T s (p + 1 - s)) from if_pos (by omega), show p + 1 - s = (p - s) + 1 by omega, codeN_s, show s + (p - s) = p by omega, ek, nv_nI (by omega)] at e
        rw [show (nM m (nI p) (nI s) d n (lN (27 * codeN T s (p - s) + (k - 96)))).1 9 17 = nI p from rfl, nI_1, nM_17]
        exact e
    · rw [bI_f z, if_pos rfl, if_neg z]
      exact fin p hs (by omega)
theorem numN_le {T : Nat → Int32} {s : Nat} : ∀ i, (∀ q, q < i → nv (T (s + q)) ≤ 57) → numN T s i < 10 ^ i
  | 0, _ => by show 0 < 1; omega
  | i + 1, h => by
    have := numN_le i (fun q hq => h q (by omega))
    have := h i (by omega)
    rw [numN_s, Nat.pow_succ]
    omega
theorem l_m241 (h1 : m.1 9 15 = nI b) (hb : b ≤ 160) (hT : m.1 76 = T) {s : Nat} (t : Int64) : ∀ (j p f : Nat), p + j = b → s ≤ p → j < f → (∀ q, s ≤ q → q < p → isDb (T q) = true) → sX9_nextToken_l241 f (nM m (nI p) (nI s) (nI (p - s)) (nI (numN T s (min (p - s) 3))) t) = some (0, nM m (nI (spn isDb T j p)) (nI s) (nI (spn isDb T j p - s)) (nI (numN T s (min (spn isDb T j p - s) 3))) (if spn isDb T j p - s ≤ 3 then -1 else -4)) := by
  have fin : ∀ q x, q ≤ 160 → sX9_nextToken_b333 (nM m (nI q) (nI s) (nI (q - s)) x t) = some (0, nM m (nI q) (nI s) (nI (q - s)) x (if q - s ≤ 3 then -1 else -4)) := by
    intro q x h3
    unfold sX9_nextToken_b333 sX9_nextToken_b351 sX9_nextToken_b394
    rw [show (nM m (nI q) (nI s) (nI (q - s)) x t).1 9 20 = nI (q - s) from rfl, nM_t, nM_t, bnd_eq, bnd_eq]
    by_cases z : q - s ≤ 3
    · rw [if_pos (show nI (q - s) ≤ 3 from nI_le (b := 3) z (by omega)), if_pos z]
    · rw [if_neg (show ¬ nI (q - s) ≤ 3 from nI_ge (a := 3) (by omega) (by omega)), if_neg z]
  intro j
  induction j with
  | zero =>
    intro p f hij hs hf hd
    obtain ⟨f, rfl⟩ := fuel_s (Nat.lt_of_le_of_lt (Nat.zero_le _) hf)
    have : p = b := by omega
    subst this
    rw [m241_s]
    unfold sX9_nextToken_b241
    rw [show ∀ x y, (nM m (nI p) (nI s) x y t).1 9 15 = m.1 9 15 from fun _ _ => rfl, show ∀ x y, (nM m (nI p) (nI s) x y t).1 9 17 = nI p from fun _ _ => rfl, h1, if_pos (nI_le (Nat.le_refl _) (by omega))]
    exact fin p _ hb
  | succ j ih =>
    intro p f hij hs hf hd
    obtain ⟨f, rfl⟩ := fuel_s (Nat.lt_of_le_of_lt (Nat.zero_le _) hf)
    rw [m241_s, spn_s]
    unfold sX9_nextToken_b241 sX9_nextToken_b307
    rw [show ∀ x y, (nM m (nI p) (nI s) x y t).1 9 15 = m.1 9 15 from fun _ _ => rfl, show ∀ x y, (nM m (nI p) (nI s) x y t).1 9 17 = nI p from fun _ _ => rfl, show ∀ x y, (nM m (nI p) (nI s) x y t).1 9 20 = x from fun _ _ => rfl, show ∀ x y, (nM m (nI p) (nI s) x y t).1 9 21 = y from fun _ _ => rfl, h1, if_neg (nI_ge (by omega) (by omega))]
    simp only [if_neg (noob (i := p) (n := 160) (by omega) (by omega)), nI_clamp (show p < 2 ^ 31 by omega), nM_k m _ _ _ _ _ (show 76 ≠ 9 by omega), hT, p_inD, cbR_some, nM_20, nM_21, nM_17, bnd_eq, show ∀ x y, (nM m (nI p) (nI s) x y t).1 9 20 = x from fun _ _ => rfl, show ∀ x y, (nM m (nI p) (nI s) x y t).1 9 17 = nI p from fun _ _ => rfl, nI_1]
    by_cases z : isDb (T p) = true
    · obtain ⟨k, k1, k2, ek⟩ := isDb_n z
      have hd' : ∀ q, s ≤ q → q < p + 1 → isDb (T q) = true := fun q h2 h3 => by
        rcases Nat.lt_or_ge q p with y | y
        · exact hd q h2 y
        · rw [show q = p by omega]; exact z
      have e := ih (p + 1) f (by omega) (by omega) (by omega) hd'
      rw [show p + 1 - s = (p - s) + 1 by omega] at e
      rw [bI_t z, if_neg n10, if_pos z]
      by_cases y : 3 ≤ p - s
      · rw [if_pos (show (3 : Int32) ≤ nI (p - s) from nI_le (a := 3) y (by omega))]
        rw [show min ((p - s) + 1) 3 = min (p - s) 3 by omega] at e
        exact e
      · have hn : numN T s (p - s) < 10 ^ (p - s) := numN_le (p - s) (fun q hq => by
          obtain ⟨k', _, k2', ek'⟩ := isDb_n (hd (s + q) (by omega) (by omega))
          rw [ek', nv_nI (by omega)]
          exact k2')
        have hn2 : 10 ^ (p - s) ≤ 10 ^ 3 := Nat.pow_le_pow_right (by omega) (by omega)
        rw [if_neg (show ¬ (3 : Int32) ≤ nI (p - s) from nI_ge (b := 3) (by omega) (by omega)), show min (p - s) 3 = p - s by omega, ek, num_step k1 k2 (by omega)]
        rw [show min ((p - s) + 1) 3 = (p - s) + 1 by omega, numN_s, show s + (p - s) = p by omega, ek, nv_nI (by omega)] at e
        exact e
    · rw [bI_f z, if_pos rfl, if_neg z]
      exact fin p _ (by omega)
theorem p_tok9 (h1 : m.1 9 15 = nI b) (hb : b ≤ 160) (hT : m.1 76 = T) {e : Nat} (he : e ≤ b) (a d n : Int32) (t : Int64) : ∃ d' n', sX9_nextToken (nM m (nI e) a d n t) = some (0, nM m (nI (tkE T b e)) (nI (tkS T b e)) d' n' (tcode T b e)) ∧ (tcode T b e = -1 → n' = nI (numN T (tkS T b e) (tkE T b e - tkS T b e))) := by
  have rS := tkS_r (T := T) he
  have rL := tkL_r (T := T) he
  have rD := tkD_r (T := T) he
  have z1 := l_m0 h1 hb hT a d n t (b - e) e 5000 (by omega) (by omega)
  have eL : ∀ z : ¬ isLb (T (tkS T b e)) = true, tkL T b e = tkS T b e := fun z => spn_zero z _
  have eD : ∀ z : ¬ isDb (T (tkS T b e)) = true, tkD T b e = tkS T b e := fun z => spn_zero z _
  unfold sX9_nextToken
  rw [z1, show spn isBb T (b - e) e = tkS T b e from rfl]
  generalize hs : tkS T b e = s at *
  unfold sX9_nextToken_b38
  rw [show (nM m (nI s) a d n t).1 9 17 = nI s from rfl, nM_18, bnd_eq, nM_20, bnd_eq, nM_21, bnd_eq]
  rw [show (nM m (nI s) (nI s) 0 0 t).1 9 17 = nI s from rfl, show (nM m (nI s) (nI s) 0 0 t).1 9 15 = m.1 9 15 from rfl, h1, nM_k m _ _ _ _ _ (show 76 ≠ 9 by omega), hT]
  unfold tcode
  rw [hs]
  by_cases a0 : s = b
  · have el : tkL T b e = s := by omega
    have ed : tkD T b e = s := by omega
    rw [if_neg (not_not_intro (show nI s = nI b by rw [a0])), if_pos a0, nM_t, bnd_eq]
    unfold sX9_nextToken_b394 tkE
    rw [hs, el, ed, if_neg (Nat.lt_irrefl s), if_neg (by omega)]
    exact ⟨0, 0, rfl, fun y => absurd y (by decide)⟩
  · rw [if_pos (fun y => a0 (nI_inj (by omega) (by omega) y)), if_neg a0]
    simp only [if_neg (noob (i := s) (n := 160) (by omega) (by omega)), nI_clamp (show s < 2 ^ 31 by omega), p_inL, p_inD, cbR_some, nM_t, bnd_eq]
    by_cases a1 : isLb (T s) = true
    · have hp : s < tkL T b e := by
        have := spn_pos (P := isLb) (T := T) (b := b) (s := s) (by omega) a1
        unfold tkL
        rw [hs]
        exact this
      have z2 := l_m101 h1 hb hT (s := s) 0 0 (b - s) s 5000 (by omega) (by omega) (by omega)
      rw [show tL9 T s (s - s) = 0 by rw [Nat.sub_self]; rfl] at z2
      have e1 : spn isLb T (b - s) s = tkL T b e := by unfold tkL; rw [hs]
      rw [e1] at z2
      rw [bI_t a1, if_neg n10, if_pos a1, show tkE T b e = tkL T b e from by unfold tkE; rw [hs, if_pos hp]]
      exact ⟨0, 0, z2, fun y => by
        by_cases z : tkL T b e - s ≤ 9
        · rw [if_pos z] at y
          exfalso
          have h3 := congrArg Int64.toInt y
          have hcl : codeN T s (tkL T b e - s) < 27 ^ (tkL T b e - s) := by
            have : ∀ i, (∀ q, q < i → nv (T (s + q)) ≤ 122) → codeN T s i < 27 ^ i := by
              intro i
              induction i with
              | zero => intro _; show 0 < 1; omega
              | succ i ih =>
                intro h4
                have := ih (fun q hq => h4 q (by omega))
                have := h4 i (by omega)
                rw [codeN_s, Nat.pow_succ]
                omega
            refine this _ (fun q hq => ?_)
            obtain ⟨k, _, k2, ek⟩ := isLb_n (spn_all isLb T (b - s) s (s + q) (by omega) (by rw [e1]; omega))
            rw [ek, nv_nI (by omega)]
            exact k2
          have h27 : 27 ^ (tkL T b e - s) ≤ 27 ^ 9 := Nat.pow_le_pow_right (by omega) z
          have h5 : (lN (codeN T s (tkL T b e - s))).toInt = (codeN T s (tkL T b e - s) : Int) := Int64.toInt_ofNat_of_lt (by omega)
          rw [h5] at h3
          have : (-1 : Int64).toInt = -1 := by decide
          omega
        · rw [if_neg z] at y
          exact absurd y (by decide)⟩
    · have el := eL a1
      rw [bI_f a1, if_pos rfl, if_neg a1]
      by_cases a2 : isDb (T s) = true
      · have hp : s < tkD T b e := by
          have := spn_pos (P := isDb) (T := T) (b := b) (s := s) (by omega) a2
          unfold tkD
          rw [hs]
          exact this
        have z3 := l_m241 h1 hb hT (s := s) t (b - s) s 5000 (by omega) (by omega) (by omega) (fun q h2 h3 => by omega)
        have e1 : spn isDb T (b - s) s = tkD T b e := by unfold tkD; rw [hs]
        rw [Nat.sub_self, show nI (numN T s (min 0 3)) = 0 from rfl, show nI 0 = 0 from rfl, e1] at z3
        have eE : tkE T b e = tkD T b e := by
          unfold tkE
          rw [hs, if_neg (by omega), if_neg (by omega)]
        rw [bI_t a2, if_neg n10, if_pos a2, eE]
        refine ⟨_, _, z3, fun y => ?_⟩
        have h3 : tkD T b e - s ≤ 3 := by
          by_cases z : tkD T b e - s ≤ 3
          · exact z
          · rw [if_neg z] at y
            exact absurd y (by decide)
        rw [show min (tkD T b e - s) 3 = tkD T b e - s by omega]
      · have ed := eD a2
        have eE : tkE T b e = s + 1 := by
          unfold tkE
          rw [hs, if_neg (by omega), if_pos (by omega)]
        rw [bI_f a2, if_pos rfl, if_neg a2, eE]
        unfold sX9_nextToken_b381 sX9_nextToken_b394
        simp only [nM_t, bnd_eq]
        by_cases a3 : T s = 59
        · rw [if_neg (not_not_intro a3), if_pos a3, show (nM m (nI s) (nI s) 0 0 (-3)).1 9 17 = nI s from rfl, nI_1, nM_17]
          exact ⟨0, 0, rfl, fun y => absurd y (by decide)⟩
        · rw [if_pos a3, if_neg a3, show (nM m (nI s) (nI s) 0 0 (-4)).1 9 17 = nI s from rfl, nI_1, nM_17]
          exact ⟨0, 0, rfl, fun y => absurd y (by decide)⟩
end TM
