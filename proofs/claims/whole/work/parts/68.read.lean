/-! the whole text read -/
def okR (R : Nat → Int32) : Prop := (R 0 = 0 ∨ R 0 = 1) ∧ (R 1 = 0 ∨ R 1 = 1) ∧ (∃ k, k ≤ 999 ∧ R 2 = nI k) ∧ (∃ k, k ≤ 2 ∧ R 3 = nI k) ∧ (∃ k, k ≤ 2 ∧ R 4 = nI k)
/-- a line that has no fault: where it ends, what it says -/
def okL (b : Nat) : Sum Nat (Nat × Nat × Int32) → Prop
  | Sum.inl q => q ≤ b
  | Sum.inr z => z.1 ≤ b ∧ ((z.2.1 = 0 ∧ (z.2.2 = 0 ∨ z.2.2 = 1)) ∨ (z.2.1 = 1 ∧ (z.2.2 = 0 ∨ z.2.2 = 1)) ∨ (z.2.1 = 2 ∧ ∃ k, k ≤ 999 ∧ z.2.2 = nI k) ∨ (z.2.1 = 3 ∧ ∃ k, k ≤ 2 ∧ z.2.2 = nI k) ∨ (z.2.1 = 4 ∧ ∃ k, k ≤ 2 ∧ z.2.2 = nI k))
section RD
variable {b : Nat} {T : Nat → Int32}
theorem si_ok {x : Nat} (hx : x ≤ b) : okL b (siR T b x) := by
  have rS := tkS_r (T := T) hx
  have rE := tkE_r (T := T) hx
  unfold siR
  split
  · exact ⟨rE.2, Or.inr (Or.inl ⟨rfl, Or.inl rfl⟩)⟩
  · split
    · exact ⟨rE.2, Or.inr (Or.inl ⟨rfl, Or.inr rfl⟩)⟩
    · exact rS.2
theorem nu_ok {x : Nat} (hx : x ≤ b) : okL b (nuR T b x) := by
  have rS := tkS_r (T := T) hx
  have rE := tkE_r (T := T) hx
  unfold nuR
  by_cases a : nuB T (tkS T b x) (tkE T b x)
  · rw [if_pos a]
    have hn : numN T (tkS T b x) (tkE T b x - tkS T b x) < 10 ^ (tkE T b x - tkS T b x) := numN_le _ (fun q hq => by
      obtain ⟨k', _, k2', ek'⟩ := isDb_n (num_all hx a (tkS T b x + q) (by omega) (by omega))
      rw [ek', nv_nI (by omega)]
      exact k2')
    have hn2 : 10 ^ (tkE T b x - tkS T b x) ≤ 10 ^ 3 := Nat.pow_le_pow_right (by omega) a.2.1
    exact ⟨rE.2, Or.inr (Or.inr (Or.inl ⟨rfl, _, by omega, rfl⟩))⟩
  · rw [if_neg a]
    exact rS.2
theorem ch_ok {x k u v w : Nat} (hx : x ≤ b) (hk : k = 3 ∨ k = 4) : okL b (chR T b x k u v w) := by
  have rS := tkS_r (T := T) hx
  have rE := tkE_r (T := T) hx
  have put : ∀ j, j ≤ 2 → okL b (Sum.inr (tkE T b x, k, nI j)) := fun j hj => by
    rcases hk with rfl | rfl
    · exact ⟨rE.2, Or.inr (Or.inr (Or.inr (Or.inl ⟨rfl, j, hj, rfl⟩)))⟩
    · exact ⟨rE.2, Or.inr (Or.inr (Or.inr (Or.inr ⟨rfl, j, hj, rfl⟩)))⟩
  unfold chR
  split
  · exact put 0 (by omega)
  · split
    · exact put 1 (by omega)
    · split
      · exact put 2 (by omega)
      · exact rS.2
theorem ln_ok {e : Nat} (he : e ≤ b) : okL b (lnR T b e) := by
  have rS := tkS_r (T := T) he
  have rE := tkE_r (T := T) he
  unfold lnR
  split
  · exact ⟨rE.2, Or.inl ⟨rfl, Or.inl rfl⟩⟩
  · split
    · exact ⟨rE.2, Or.inl ⟨rfl, Or.inr rfl⟩⟩
    · split
      · exact si_ok rE.2
      · split
        · exact nu_ok rE.2
        · split
          · exact ch_ok rE.2 (Or.inl rfl)
          · split
            · exact ch_ok rE.2 (Or.inr rfl)
            · exact rS.2
theorem okR_upd {R : Nat → Int32} {z : Nat × Nat × Int32} (h : okR R) (hz : okL b (Sum.inr z)) : okR (upd R z.2.1 z.2.2) := by
  obtain ⟨r0, r1, r2, r3, r4⟩ := h
  obtain ⟨-, h | h | h | h | h⟩ := hz
  · rw [h.1]
    exact ⟨by rw [upd_eq]; exact h.2, by rw [upd_ne _ _ (by omega)]; exact r1, by rw [upd_ne _ _ (by omega)]; exact r2, by rw [upd_ne _ _ (by omega)]; exact r3, by rw [upd_ne _ _ (by omega)]; exact r4⟩
  · rw [h.1]
    exact ⟨by rw [upd_ne _ _ (by omega)]; exact r0, by rw [upd_eq]; exact h.2, by rw [upd_ne _ _ (by omega)]; exact r2, by rw [upd_ne _ _ (by omega)]; exact r3, by rw [upd_ne _ _ (by omega)]; exact r4⟩
  · rw [h.1]
    exact ⟨by rw [upd_ne _ _ (by omega)]; exact r0, by rw [upd_ne _ _ (by omega)]; exact r1, by rw [upd_eq]; exact h.2, by rw [upd_ne _ _ (by omega)]; exact r3, by rw [upd_ne _ _ (by omega)]; exact r4⟩
  · rw [h.1]
    exact ⟨by rw [upd_ne _ _ (by omega)]; exact r0, by rw [upd_ne _ _ (by omega)]; exact r1, by rw [upd_ne _ _ (by omega)]; exact r2, by rw [upd_eq]; exact h.2, by rw [upd_ne _ _ (by omega)]; exact r4⟩
  · rw [h.1]
    exact ⟨by rw [upd_ne _ _ (by omega)]; exact r0, by rw [upd_ne _ _ (by omega)]; exact r1, by rw [upd_ne _ _ (by omega)]; exact r2, by rw [upd_ne _ _ (by omega)]; exact r3, by rw [upd_eq]; exact h.2⟩
/-- behind a line: the end, one more line, or a fault -/
def rdS (T : Nat → Int32) (b : Nat) : Nat → Nat → Nat → (Nat → Int32) → Sum Nat (Nat × (Nat → Int32))
  | 0, e, _, _ => Sum.inl e
  | j + 1, e, k, R => match lnR T b e with
    | Sum.inl q => Sum.inl q
    | Sum.inr z => if tkS T b z.1 = b then Sum.inr (k + 1, upd R z.2.1 z.2.2) else if T (tkS T b z.1) = 59 ∧ ¬ j = 0 then rdS T b j (tkE T b z.1) (k + 1) (upd R z.2.1 z.2.2) else Sum.inl (tkS T b z.1)
theorem rdS_s (T : Nat → Int32) (b j e k : Nat) (R : Nat → Int32) : rdS T b (j + 1) e k R = match lnR T b e with
    | Sum.inl q => Sum.inl q
    | Sum.inr z => if tkS T b z.1 = b then Sum.inr (k + 1, upd R z.2.1 z.2.2) else if T (tkS T b z.1) = 59 ∧ ¬ j = 0 then rdS T b j (tkE T b z.1) (k + 1) (upd R z.2.1 z.2.2) else Sum.inl (tkS T b z.1) := rfl
def okS (b : Nat) : Sum Nat (Nat × (Nat → Int32)) → Prop
  | Sum.inl q => q ≤ b
  | Sum.inr z => z.1 ≤ 8 ∧ okR z.2
theorem rd_ok : ∀ {j e k : Nat} {R : Nat → Int32}, e ≤ b → k + j ≤ 8 → okR R → okS b (rdS T b j e k R)
  | 0, e, k, R, h1, _, _ => h1
  | j + 1, e, k, R, h1, h2, h3 => by
    have hl := ln_ok (T := T) h1
    rw [rdS_s]
    cases hr : lnR T b e with
    | inl q =>
      rw [hr] at hl
      exact hl
    | inr z =>
      rw [hr] at hl
      have hz : z.1 ≤ b := hl.1
      have rS := tkS_r (T := T) hz
      have rE := tkE_r (T := T) hz
      show okS b (if tkS T b z.1 = b then _ else _)
      by_cases a : tkS T b z.1 = b
      · rw [if_pos a]
        exact ⟨by show k + 1 ≤ 8; omega, okR_upd h3 hl⟩
      · rw [if_neg a]
        by_cases c : T (tkS T b z.1) = 59 ∧ ¬ j = 0
        · rw [if_pos c]
          exact rd_ok rE.2 (by omega) (okR_upd h3 hl)
        · rw [if_neg c]
          exact rS.2
/-- how the class's reading ends -/
def sC (μ : pMem) (o : gO) : Sum Nat (Nat × (Nat → Int32)) → Prop
  | Sum.inl q => ∃ ν, o = some (nI q, ν) ∧ fr μ ν ∧ ν.1 9 = μ.1 9
  | Sum.inr z => ∃ ν, o = some (-1, ν) ∧ (∀ q, q < 5 → ν.1 54 q = z.2 q) ∧ ν.1 6 5 = nI z.1 ∧ fr μ ν ∧ ν.1 9 = μ.1 9
theorem cF.fr {μ ν : pMem} (c : cF μ ν) : fr μ ν := ⟨fun k h1 _ _ h4 _ _ _ _ => c.1 k (by omega) h4, fun k h => c.1 k (by omega) (by omega), fun j _ _ => by rw [c.1 4 (by omega) (by omega)], fun j h => c.2.1 j (by omega) (by omega), fun j _ _ => by rw [c.1 9 (by omega) (by omega)], by rw [c.2.2]⟩
theorem sC.tr {μ ν : pMem} {o : gO} {r : Sum Nat (Nat × (Nat → Int32))} (a : fr μ ν) (e : ν.1 9 = μ.1 9) (c : sC ν o r) : sC μ o r := by
  cases r with
  | inl q =>
    obtain ⟨ξ, h1, h2, h3⟩ := c
    exact ⟨ξ, h1, a.tr h2, h3.trans e⟩
  | inr z =>
    obtain ⟨ξ, h1, h2, h3, h4, h5⟩ := c
    exact ⟨ξ, h1, h2, h3, a.tr h4, h5.trans e⟩
theorem rf_s (f : Nat) : sX5_firstFault_l23 (f + 1) = sX5_firstFault_b23 (sX5_firstFault_l23 f) := rfl
theorem l_rd5 (hb : b ≤ 160) : ∀ (j e k f : Nat) (R : Nat → Int32) (μ : pMem), k + (j + 1) = 8 → j + 1 < f → e ≤ b → μ.1 6 1 = nI b → μ.1 52 = T → μ.1 6 4 = nI e → (∀ q, q < 5 → μ.1 54 q = R q) → sC μ (sX5_firstFault_l23 f (nI (k + 1)) μ) (rdS T b (j + 1) e k R) := by
  intro j
  induction j with
  | zero =>
    intro e k f R μ hk hf he h1 hT h4 hR
    obtain ⟨f, rfl⟩ := fuel_s (Nat.lt_of_le_of_lt (Nat.zero_le _) hf)
    obtain ⟨f, rfl⟩ := fuel_s (show 0 < f by omega)
    have hl := ln_ok (T := T) he
    have cl := c_line h1 hb hT he h4
    rw [rdS_s, rf_s]
    unfold sX5_firstFault_b23
    rw [if_neg (show ¬ (8 : Int32) < nI (k + 1) from nI_nlt (a := 8) (by omega) (by omega))]
    cases hr : lnR T b e with
    | inl q =>
      rw [hr] at cl
      obtain ⟨ν, y1, y2, y3⟩ := cl
      rw [y1, cbE_some, if_neg nn0]
      exact ⟨ν, by rw [y2], y3.fr, y3.1 9 (by omega) (by omega)⟩
    | inr z =>
      rw [hr] at cl hl
      obtain ⟨ν, y1, y2, y3, y4⟩ := cl
      have hz : z.1 ≤ b := hl.1
      have h1' : (st1 ν 6 5 (nI (k + 1))).1 6 1 = nI b := by
        rw [st1_at, if_neg (by omega), y4.2.1 1 (by omega) (by omega)]
        exact h1
      have hT' : (st1 ν 6 5 (nI (k + 1))).1 52 = T := by
        rw [st1_ne _ _ _ _ (by omega), y4.1 52 (by omega) (by omega)]
        exact hT
      have h4' : (st1 ν 6 5 (nI (k + 1))).1 6 4 = nI z.1 := by
        rw [st1_at, if_neg (by omega)]
        exact y2
      obtain ⟨ξ, w1, w2, w3, w4, w5⟩ := q_tok5 h1' hb hT' hz h4'
      have rS := tkS_r (T := T) hz
      have rE := tkE_r (T := T) hz
      have h1x : ξ.1 6 1 = nI b := (w5.2.1 1 (by omega) (by omega)).trans h1'
      have hTx : ξ.1 52 = T := (w5.1 52 (by omega) (by omega)).trans hT'
      have F : fr μ ξ := (y4.fr.tr (fr.s6 ν (j := 5) (nI (k + 1)) (by omega))).tr w5.fr
      have N : ξ.1 9 = μ.1 9 := by
        rw [w5.1 9 (by omega) (by omega), st1_ne _ _ _ _ (by omega)]
        exact y4.1 9 (by omega) (by omega)
      have hRx : ∀ q, q < 5 → ξ.1 54 q = upd R z.2.1 z.2.2 q := fun q hq => by
        rw [w4, st1_ne _ _ _ _ (by omega), y3, upd_at, upd_at, hR q hq]
      show sC μ _ (if tkS T b z.1 = b then _ else _)
      rw [y1, cbE_some, if_pos n10, bnd_eq, w1, cbE_some, w2, h1x, hTx]
      by_cases a : tkS T b z.1 = b
      · rw [if_neg (show ¬ nI (tkS T b z.1) < nI b from nI_nlt (by omega) (by omega)), if_pos a]
        refine ⟨ξ, rfl, hRx, ?_, F, N⟩
        rw [w5.2.1 5 (by omega) (by omega), st1_at, if_pos rfl]
      · rw [if_pos (show nI (tkS T b z.1) < nI b from nI_lt (by omega) (by omega)), if_neg a, if_neg (show ¬ (T (tkS T b z.1) = 59 ∧ ¬ 0 = 0) from fun y => y.2 rfl), if_neg (noob (by omega) (by omega)), nI_clamp (by omega)]
        by_cases c : T (tkS T b z.1) = 59
        · rw [if_pos c, rf_s]
          unfold sX5_firstFault_b23
          rw [nI_1, if_pos (show (8 : Int32) < nI (k + 1 + 1) from nI_lt (a := 8) (by omega) (by omega)), w2]
          exact ⟨ξ, rfl, F, N⟩
        · rw [if_neg c]
          exact ⟨ξ, rfl, F, N⟩
  | succ j ih =>
    intro e k f R μ hk hf he h1 hT h4 hR
    obtain ⟨f, rfl⟩ := fuel_s (Nat.lt_of_le_of_lt (Nat.zero_le _) hf)
    have hl := ln_ok (T := T) he
    have cl := c_line h1 hb hT he h4
    rw [rdS_s, rf_s]
    unfold sX5_firstFault_b23
    rw [if_neg (show ¬ (8 : Int32) < nI (k + 1) from nI_nlt (a := 8) (by omega) (by omega))]
    cases hr : lnR T b e with
    | inl q =>
      rw [hr] at cl
      obtain ⟨ν, y1, y2, y3⟩ := cl
      rw [y1, cbE_some, if_neg nn0]
      exact ⟨ν, by rw [y2], y3.fr, y3.1 9 (by omega) (by omega)⟩
    | inr z =>
      rw [hr] at cl hl
      obtain ⟨ν, y1, y2, y3, y4⟩ := cl
      have hz : z.1 ≤ b := hl.1
      have h1' : (st1 ν 6 5 (nI (k + 1))).1 6 1 = nI b := by
        rw [st1_at, if_neg (by omega), y4.2.1 1 (by omega) (by omega)]
        exact h1
      have hT' : (st1 ν 6 5 (nI (k + 1))).1 52 = T := by
        rw [st1_ne _ _ _ _ (by omega), y4.1 52 (by omega) (by omega)]
        exact hT
      have h4' : (st1 ν 6 5 (nI (k + 1))).1 6 4 = nI z.1 := by
        rw [st1_at, if_neg (by omega)]
        exact y2
      obtain ⟨ξ, w1, w2, w3, w4, w5⟩ := q_tok5 h1' hb hT' hz h4'
      have rS := tkS_r (T := T) hz
      have rE := tkE_r (T := T) hz
      have h1x : ξ.1 6 1 = nI b := (w5.2.1 1 (by omega) (by omega)).trans h1'
      have hTx : ξ.1 52 = T := (w5.1 52 (by omega) (by omega)).trans hT'
      have F : fr μ ξ := (y4.fr.tr (fr.s6 ν (j := 5) (nI (k + 1)) (by omega))).tr w5.fr
      have N : ξ.1 9 = μ.1 9 := by
        rw [w5.1 9 (by omega) (by omega), st1_ne _ _ _ _ (by omega)]
        exact y4.1 9 (by omega) (by omega)
      have hRx : ∀ q, q < 5 → ξ.1 54 q = upd R z.2.1 z.2.2 q := fun q hq => by
        rw [w4, st1_ne _ _ _ _ (by omega), y3, upd_at, upd_at, hR q hq]
      show sC μ _ (if tkS T b z.1 = b then _ else _)
      rw [y1, cbE_some, if_pos n10, bnd_eq, w1, cbE_some, w2, h1x, hTx]
      by_cases a : tkS T b z.1 = b
      · rw [if_neg (show ¬ nI (tkS T b z.1) < nI b from nI_nlt (by omega) (by omega)), if_pos a]
        refine ⟨ξ, rfl, hRx, ?_, F, N⟩
        rw [w5.2.1 5 (by omega) (by omega), st1_at, if_pos rfl]
      · rw [if_pos (show nI (tkS T b z.1) < nI b from nI_lt (by omega) (by omega)), if_neg a, if_neg (noob (by omega) (by omega)), nI_clamp (by omega)]
        by_cases c : T (tkS T b z.1) = 59
        · rw [if_pos c, if_pos ⟨c, by omega⟩, nI_1]
          exact (ih (tkE T b z.1) (k + 1) f (upd R z.2.1 z.2.2) ξ (by omega) (by omega) rE.2 h1x hTx w3 hRx).tr F N
        · rw [if_neg c, if_neg (fun y => c y.1)]
          exact ⟨ξ, rfl, F, N⟩
/-- how the other side's reading ends -/
def sN (μ : pMem) (o : gO) : Sum Nat (Nat × (Nat → Int32)) → Prop
  | Sum.inl q => ∃ ν, o = some (0, ν) ∧ ν.1 9 22 = nI q ∧ fr μ ν ∧ ν.1 9 38 = μ.1 9 38
  | Sum.inr z => ∃ ν, o = some (1, ν) ∧ (∀ q, q < 5 → ν.1 77 q = z.2 q) ∧ ν.1 9 23 = nI z.1 ∧ fr μ ν ∧ ν.1 9 38 = μ.1 9 38
theorem mF.fr {μ ν : pMem} (c : mF μ ν) : fr μ ν := ⟨fun k h1 _ _ _ h5 _ _ _ => c.1 k (by omega) h5, fun k h => c.1 k (by omega) (by omega), fun j _ _ => by rw [c.1 4 (by omega) (by omega)], fun j _ => by rw [c.1 6 (by omega) (by omega)], fun j h _ => c.2.1 j (by omega), c.2.2⟩
theorem sN.tr {μ ν : pMem} {o : gO} {r : Sum Nat (Nat × (Nat → Int32))} (a : fr μ ν) (e : ν.1 9 38 = μ.1 9 38) (c : sN ν o r) : sN μ o r := by
  cases r with
  | inl q =>
    obtain ⟨ξ, h1, h2, h3, h4⟩ := c
    exact ⟨ξ, h1, h2, a.tr h3, h4.trans e⟩
  | inr z =>
    obtain ⟨ξ, h1, h2, h3, h4, h5⟩ := c
    exact ⟨ξ, h1, h2, h3, a.tr h4, h5.trans e⟩
theorem rn9_s (f : Nat) : sX9_isRead_l19 (f + 1) = sX9_isRead_b19 (sX9_isRead_l19 f) := rfl
theorem l_rd9 (hb : b ≤ 160) : ∀ (j e k f : Nat) (R : Nat → Int32) (μ : pMem), k + (j + 1) = 8 → j + 2 < f → e ≤ b → μ.1 9 15 = nI b → μ.1 76 = T → μ.1 9 17 = nI e → μ.1 9 23 = nI k → (∀ q, q < 5 → μ.1 77 q = R q) → sN μ (sX9_isRead_l19 f 1 μ) (rdS T b (j + 1) e k R) := by
  intro j
  induction j with
  | zero =>
    intro e k f R μ hk hf he h1 hT h7 h23 hR
    obtain ⟨f, rfl⟩ := fuel_s (Nat.lt_of_le_of_lt (Nat.zero_le _) hf)
    obtain ⟨f, rfl⟩ := fuel_s (show 0 < f by omega)
    have hl := ln_ok (T := T) he
    have cl := m_line h1 hb hT he h7
    rw [rdS_s, rn9_s]
    unfold sX9_isRead_b19
    rw [if_neg n10]
    cases hr : lnR T b e with
    | inl q =>
      rw [hr] at cl
      obtain ⟨ν, y1, y2, y3⟩ := cl
      rw [y1, cbE_some, if_neg nn0]
      exact ⟨ν, rfl, y2, y3.fr, y3.2.1 38 (by omega)⟩
    | inr z =>
      rw [hr] at cl hl
      obtain ⟨ν, y1, y2, y3, y4⟩ := cl
      have hz : z.1 ≤ b := hl.1
      have e23 : ν.1 9 23 = nI k := (y4.2.1 23 (by omega)).trans h23
      have h1' : (st1 ν 9 23 (nI (k + 1))).1 9 15 = nI b := by
        rw [st1_at, if_neg (by omega), y4.2.1 15 (by omega)]
        exact h1
      have hT' : (st1 ν 9 23 (nI (k + 1))).1 76 = T := by
        rw [st1_ne _ _ _ _ (by omega), y4.1 76 (by omega) (by omega)]
        exact hT
      have h7' : (st1 ν 9 23 (nI (k + 1))).1 9 17 = nI z.1 := by
        rw [st1_at, if_neg (by omega)]
        exact y2
      obtain ⟨ξ, w1, w2, w3, w4, -, w6, w7⟩ := q_tok9 h1' hb hT' hz h7'
      have rS := tkS_r (T := T) hz
      have rE := tkE_r (T := T) hz
      have F : fr μ ξ := (y4.fr.tr (fr.s9 ν (j := 23) (nI (k + 1)) (by omega))).tr w7.fr
      have N : ξ.1 9 38 = μ.1 9 38 := by
        rw [w7.2.1 38 (by omega), st1_at, if_neg (by omega)]
        exact y4.2.1 38 (by omega)
      have x23 : ξ.1 9 23 = nI (k + 1) := by rw [w7.2.1 23 (by omega), st1_at, if_pos rfl]
      have hRx : ∀ q, q < 5 → ξ.1 77 q = upd R z.2.1 z.2.2 q := fun q hq => by
        rw [w6, st1_ne _ _ _ _ (by omega), y3, upd_at, upd_at, hR q hq]
      have stop : sN μ (sX9_isRead_l19 (f + 1) 0 ξ) (if tkS T b z.1 = b then Sum.inr (k + 1, upd R z.2.1 z.2.2) else Sum.inl (tkS T b z.1)) := by
        rw [rn9_s]
        unfold sX9_isRead_b19 sX9_isRead_b93 sX9_isRead_b98 sX9_fails
        rw [if_pos rfl, w4, bnd_eq, cbE_some, if_pos rfl, nar0, nar1]
        by_cases a : tkS T b z.1 = b
        · rw [if_pos ((lg_cmp_eq _ _).mpr (end_iff.mpr a)), if_pos a]
          exact ⟨ξ, rfl, hRx, x23, F, N⟩
        · rw [if_neg (fun y => a (end_iff.mp ((lg_cmp_eq _ _).mp y))), if_neg a]
          exact ⟨_, rfl, by rw [st1_at, if_pos rfl]; exact w3, F.tr (fr.s9 ξ _ (by omega)), by rw [st1_at, if_neg (by omega)]; exact N⟩
      show sN μ _ (if tkS T b z.1 = b then _ else _)
      unfold sX9_isRead_b70 sX9_isRead_b71
      rw [y1, cbE_some, if_pos n10, e23, nI_1, bnd_eq, w1, cbE_some, w4, x23, if_pos (show (8 : Int32) ≤ nI (k + 1) from nI_le (a := 8) (by omega) (by omega)), if_neg (show ¬ (T (tkS T b z.1) = 59 ∧ ¬ 0 = 0) from fun y => y.2 rfl)]
      by_cases c : lg_cmp (tcode T b z.1) (-3) = 0
      · rw [if_neg (not_not_intro c)]
        exact stop
      · rw [if_pos c]
        exact stop
  | succ j ih =>
    intro e k f R μ hk hf he h1 hT h7 h23 hR
    obtain ⟨f, rfl⟩ := fuel_s (Nat.lt_of_le_of_lt (Nat.zero_le _) hf)
    obtain ⟨f, rfl⟩ := fuel_s (show 0 < f by omega)
    have hl := ln_ok (T := T) he
    have cl := m_line h1 hb hT he h7
    rw [rdS_s, rn9_s]
    unfold sX9_isRead_b19
    rw [if_neg n10]
    cases hr : lnR T b e with
    | inl q =>
      rw [hr] at cl
      obtain ⟨ν, y1, y2, y3⟩ := cl
      rw [y1, cbE_some, if_neg nn0]
      exact ⟨ν, rfl, y2, y3.fr, y3.2.1 38 (by omega)⟩
    | inr z =>
      rw [hr] at cl hl
      obtain ⟨ν, y1, y2, y3, y4⟩ := cl
      have hz : z.1 ≤ b := hl.1
      have e23 : ν.1 9 23 = nI k := (y4.2.1 23 (by omega)).trans h23
      have h1' : (st1 ν 9 23 (nI (k + 1))).1 9 15 = nI b := by
        rw [st1_at, if_neg (by omega), y4.2.1 15 (by omega)]
        exact h1
      have hT' : (st1 ν 9 23 (nI (k + 1))).1 76 = T := by
        rw [st1_ne _ _ _ _ (by omega), y4.1 76 (by omega) (by omega)]
        exact hT
      have h7' : (st1 ν 9 23 (nI (k + 1))).1 9 17 = nI z.1 := by
        rw [st1_at, if_neg (by omega)]
        exact y2
      obtain ⟨ξ, w1, w2, w3, w4, -, w6, w7⟩ := q_tok9 h1' hb hT' hz h7'
      have rS := tkS_r (T := T) hz
      have rE := tkE_r (T := T) hz
      have F : fr μ ξ := (y4.fr.tr (fr.s9 ν (j := 23) (nI (k + 1)) (by omega))).tr w7.fr
      have N : ξ.1 9 38 = μ.1 9 38 := by
        rw [w7.2.1 38 (by omega), st1_at, if_neg (by omega)]
        exact y4.2.1 38 (by omega)
      have x23 : ξ.1 9 23 = nI (k + 1) := by rw [w7.2.1 23 (by omega), st1_at, if_pos rfl]
      have hRx : ∀ q, q < 5 → ξ.1 77 q = upd R z.2.1 z.2.2 q := fun q hq => by
        rw [w6, st1_ne _ _ _ _ (by omega), y3, upd_at, upd_at, hR q hq]
      have h1x : ξ.1 9 15 = nI b := (w7.2.1 15 (by omega)).trans h1'
      have hTx : ξ.1 76 = T := (w7.1 76 (by omega) (by omega)).trans hT'
      have stop : sN μ (sX9_isRead_l19 (f + 1) 0 ξ) (if tkS T b z.1 = b then Sum.inr (k + 1, upd R z.2.1 z.2.2) else Sum.inl (tkS T b z.1)) := by
        rw [rn9_s]
        unfold sX9_isRead_b19 sX9_isRead_b93 sX9_isRead_b98 sX9_fails
        rw [if_pos rfl, w4, bnd_eq, cbE_some, if_pos rfl, nar0, nar1]
        by_cases a : tkS T b z.1 = b
        · rw [if_pos ((lg_cmp_eq _ _).mpr (end_iff.mpr a)), if_pos a]
          exact ⟨ξ, rfl, hRx, x23, F, N⟩
        · rw [if_neg (fun y => a (end_iff.mp ((lg_cmp_eq _ _).mp y))), if_neg a]
          exact ⟨_, rfl, by rw [st1_at, if_pos rfl]; exact w3, F.tr (fr.s9 ξ _ (by omega)), by rw [st1_at, if_neg (by omega)]; exact N⟩
      show sN μ _ (if tkS T b z.1 = b then _ else _)
      unfold sX9_isRead_b70 sX9_isRead_b71
      rw [y1, cbE_some, if_pos n10, e23, nI_1, bnd_eq, w1, cbE_some, w4, x23, if_neg (show ¬ (8 : Int32) ≤ nI (k + 1) from nI_ge (b := 8) (by omega) (by omega))]
      by_cases c : lg_cmp (tcode T b z.1) (-3) = 0
      · have c' := semi_iff.mp ((lg_cmp_eq _ _).mp c)
        rw [if_neg (not_not_intro c), if_neg c'.1, if_pos ⟨c'.2, by omega⟩]
        exact (ih (tkE T b z.1) (k + 1) (f + 1) (upd R z.2.1 z.2.2) ξ (by omega) (by omega) rE.2 h1x hTx w2 x23 hRx).tr F N
      · rw [if_pos c]
        by_cases a : tkS T b z.1 = b
        · rw [if_pos a] at stop ⊢
          exact stop
        · rw [if_neg a] at stop ⊢
          rw [if_neg (fun y => c ((lg_cmp_eq _ _).mpr (semi_iff.mpr ⟨a, y.1⟩)))]
          exact stop
end RD
