/-! the other side does a change -/
theorem own_step {k20 : Int32 → Int32 → Int32 → Int32 → Int32 → Int32 → Int32 → pMem → gO} (k a b s x n : Int32) (i : Nat) (w t0 : Int32) (ht : t0 = if bt s i then 1 else 0) (m : pMem) : sX9_doLast_b60 k20 k a b s x n (nI i) w t0 m = sX9_doLast_b159 k20 k a b s x n (nI i) (owS k a b s n i w) m := by
  have tz : t0 = 0 ↔ ¬ bt s i = true := by
    rw [ht]
    by_cases e : bt s i = true
    · rw [if_pos e]; exact ⟨fun z => absurd z (by decide), fun z => absurd e z⟩
    · rw [if_neg e]; exact ⟨fun _ => e, fun _ => rfl⟩
  have c01 : (k = 0 ∨ k = 1) → sX9_doLast_b75 k20 k a b s x n (nI i) w t0 m = sX9_doLast_b159 k20 k a b s x n (nI i) (owS k a b s n i w) m := by
    intro hk
    unfold sX9_doLast_b75 sX9_doLast_b108 owS
    rw [if_pos hk]
    by_cases e : w = a
    · rw [if_pos e, if_pos e]
      by_cases f : bt s i = true
      · rw [if_neg (fun z => tz.mp z f), if_pos f]
      · rw [if_pos (tz.mpr f), if_neg f]
        by_cases k0 : k = 0
        · rw [if_neg (not_not_intro k0), if_pos k0]
        · rw [if_pos k0, if_neg k0]
    · rw [if_neg e, if_neg e]
  unfold sX9_doLast_b60
  by_cases k0 : k = 0
  · rw [if_pos k0]; exact c01 (Or.inl k0)
  · rw [if_neg k0]
    by_cases k1 : k = 1
    · rw [if_neg (not_not_intro k1)]; exact c01 (Or.inr k1)
    · rw [if_pos k1]
      unfold sX9_doLast_b130 sX9_doLast_b155 sX9_doLast_b157 owS
      rw [if_neg (show ¬ (k = 0 ∨ k = 1) from fun z => z.elim k0 k1)]
      by_cases k2 : k = 2
      · rw [if_neg (not_not_intro k2), if_pos k2]
        by_cases e : w = b
        · rw [if_neg (not_not_intro e), if_pos e]
        · rw [if_pos e, if_neg e]
      · rw [if_pos k2, if_neg k2]
        by_cases k3 : k = 3
        · rw [if_neg (not_not_intro k3), if_pos k3]
          by_cases e : w = a
          · rw [if_neg (not_not_intro e)]
            by_cases f : bt s i = true
            · rw [if_neg (fun z => tz.mp z f), if_pos ⟨e, f⟩]
            · rw [if_pos (tz.mpr f), if_neg (fun z => f z.2)]
          · rw [if_pos e, if_neg (fun z => e z.1)]
        · rw [if_pos k3, if_neg k3]
/-- what the last step leaves -/
def dLast (c : Nat) (k a b s n : Int32) (i : Nat) (m m' : pMem) : Prop := m'.2 = m.2 ∧ (∀ q, q ≠ 74 → q ≠ 75 → m'.1 q = m.1 q) ∧ (∀ x, i ≤ x → x < 8 → m'.1 74 (8 * (c + 1) + x) = owS k a b s n x (m.1 74 (8 * c + x))) ∧ (∀ x, x < 8 * (c + 1) + i → m'.1 74 x = m.1 74 x) ∧ m'.1 75 (c + 1) = thS k a b n (m.1 75 c) ∧ (∀ x, x ≠ c + 1 → m'.1 75 x = m.1 75 x)
theorem dLast_1 (c : Nat) (k a b s n : Int32) (m m' : pMem) (h2 : m'.2 = m.2) (h : ∀ q, q ≠ 75 → m'.1 q = m.1 q) (h5 : m'.1 75 (c + 1) = thS k a b n (m.1 75 c)) (h6 : ∀ x, x ≠ c + 1 → m'.1 75 x = m.1 75 x) : dLast c k a b s n 8 m m' :=
  ⟨h2, fun q _ q2 => h q q2, fun x x1 x2 => absurd x2 (by omega), fun x _ => by rw [h 74 (by omega)], h5, h6⟩
theorem st_ne (m : pMem) {k q : Nat} (i : Nat) (v : Int32) (h : q ≠ k) : (st1 m k i v).1 q = m.1 q := if_neg h
theorem st_eq (m : pMem) (k i : Nat) (v : Int32) : (st1 m k i v).1 k i = v := by
  rw [st1_1, if_pos rfl, upd_eq]
theorem st_at (m : pMem) (k : Nat) {i j : Nat} (v : Int32) (h : j ≠ i) : (st1 m k i v).1 k j = m.1 k j := by
  rw [st1_1, if_pos rfl, upd_ne _ _ h]
theorem l_doLast0 {c : Nat} (hc : c < 12) (k a b s n : Int32) (K : Int32 → Int32 → Int32 → Int32 → Int32 → Int32 → Int32 → pMem → gO) (m : pMem) : ∃ m', sX9_doLast_b20 K k a b s (nI (c + 1)) n (nI 8) m = some (0, m') ∧ dLast c k a b s n 8 m m' := by
  unfold sX9_doLast_b20 sX9_doLast_b280
  have e1 : (st1 m 75 (c + 1) (m.1 75 c)).1 75 (c + 1) = m.1 75 c := st_eq _ _ _ _
  rw [if_pos (show (8 : Int32) ≤ nI 8 by decide), nI_pred, if_neg (noob (i := c) (n := 13) (by omega) (by omega))]
  simp only [if_neg (noob (i := c + 1) (n := 13) (by omega) (by omega)), nI_clamp (show c + 1 < 2 ^ 31 by omega), nI_clamp (show c < 2 ^ 31 by omega), bnd_eq, e1]
  have fr1 : ∀ y : Int32, y = thS k a b n (m.1 75 c) → dLast c k a b s n 8 m (st1 (st1 m 75 (c + 1) (m.1 75 c)) 75 (c + 1) y) := by
    intro y hy
    refine dLast_1 _ _ _ _ _ _ _ _ rfl (fun q h2 => ?_) ?_ (fun x hx => ?_)
    · rw [st_ne _ _ _ h2, st_ne _ _ _ h2]
    · rw [st_eq, hy]
    · rw [st_at _ _ _ hx, st_at _ _ _ hx]
  have fr0 : m.1 75 c = thS k a b n (m.1 75 c) → dLast c k a b s n 8 m (st1 m 75 (c + 1) (m.1 75 c)) := by
    intro hy
    refine dLast_1 _ _ _ _ _ _ _ _ rfl (fun q h2 => ?_) ?_ (fun x hx => ?_)
    · rw [st_ne _ _ _ h2]
    · rw [st_eq, ← hy]
    · rw [st_at _ _ _ hx]
  unfold thS at fr1 fr0
  by_cases k0 : k = 0
  · rw [if_neg (not_not_intro k0)]
    exact ⟨_, rfl, fr1 _ (by rw [if_pos k0])⟩
  · rw [if_pos k0]
    by_cases k1 : k = 1
    · rw [if_neg (not_not_intro k1)]
      exact ⟨_, rfl, fr1 _ (by rw [if_neg k0, if_pos k1])⟩
    · rw [if_pos k1]
      by_cases k2 : k = 2
      · rw [if_neg (not_not_intro k2)]
        exact ⟨_, rfl, fr1 _ (by rw [if_neg k0, if_neg k1, if_pos k2])⟩
      · rw [if_pos k2]
        exact ⟨_, rfl, fr0 (by rw [if_neg k0, if_neg k1, if_neg k2])⟩
theorem l_doLastS {c i : Nat} (hc : c < 12) (hi : i < 8) (k a b s n : Int32) (K : Int32 → Int32 → Int32 → Int32 → Int32 → Int32 → Int32 → pMem → gO) (m : pMem) : sX9_doLast_b20 K k a b s (nI (c + 1)) n (nI i) m = K k a b s (nI (c + 1)) n (nI (i + 1)) (st1 m 74 (8 * (c + 1) + i) (owS k a b s n i (m.1 74 (8 * c + i)))) := by
  unfold sX9_doLast_b20
  rw [if_neg (show ¬ (8 : Int32) ≤ nI i from nI_ge (b := 8) hi (by omega)), nI_pred, ix8, if_neg (noob (by omega) (by omega)), nI_clamp (by omega), bnd_eq, b_ask s i (by omega)]
  have fin : ∀ t0 : Int32, (t0 = if bt s i then 1 else 0) → sX9_doLast_b60 K k a b s (nI (c + 1)) n (nI i) (m.1 74 (8 * c + i)) t0 m = K k a b s (nI (c + 1)) n (nI (i + 1)) (st1 m 74 (8 * (c + 1) + i) (owS k a b s n i (m.1 74 (8 * c + i)))) := by
    intro t0 ht
    rw [own_step k a b s _ n i _ t0 ht]
    unfold sX9_doLast_b159
    rw [ix8, if_neg (noob (by omega) (by omega)), nI_clamp (by omega), bnd_eq, nI_1]
  by_cases e : bt s i = true
  · rw [if_pos e, if_neg (not_not_intro rfl)]
    exact fin 1 (by rw [if_pos e])
  · rw [if_neg e, if_pos (by decide)]
    exact fin 0 (by rw [if_neg e])
theorem l20_s (f : Nat) : sX9_doLast_l20 (f + 1) = sX9_doLast_b20 (sX9_doLast_l20 f) := rfl
theorem l_doLast {c : Nat} (hc : c < 12) (k a b s n : Int32) : ∀ (j i f : Nat), i + j = 8 → j < f → ∀ m : pMem, ∃ m', sX9_doLast_l20 f k a b s (nI (c + 1)) n (nI i) m = some (0, m') ∧ dLast c k a b s n i m m' := by
  intro j
  induction j with
  | zero =>
    intro i f hij hf m
    obtain ⟨f, rfl⟩ := fuel_s (Nat.lt_of_le_of_lt (Nat.zero_le _) hf)
    have : i = 8 := by omega
    subst this
    rw [l20_s]
    exact l_doLast0 hc k a b s n (sX9_doLast_l20 f) m
  | succ j ih =>
    intro i f hij hf m
    obtain ⟨f, rfl⟩ := fuel_s (Nat.lt_of_le_of_lt (Nat.zero_le _) hf)
    obtain ⟨m', h1, h2, h3, h4, h5, h6, h7⟩ := ih (i + 1) f (by omega) (by omega) (st1 m 74 (8 * (c + 1) + i) (owS k a b s n i (m.1 74 (8 * c + i))))
    rw [l20_s, l_doLastS hc (by omega)]
    refine ⟨m', h1, h2, fun q q1 q2 => ?_, fun x x1 x2 => ?_, fun x x1 => ?_, ?_, fun x hx => ?_⟩
    · rw [h3 q q1 q2, st_ne _ _ _ q1]
    · rcases Nat.lt_or_ge i x with z | z
      · rw [h4 x z x2, st_at _ _ _ (by omega)]
      · have : x = i := by omega
        subst this
        rw [h5 _ (by omega), st_eq]
    · rw [h5 x (by omega), st_at _ _ _ (by omega)]
    · rw [h6, st_ne _ _ _ (by omega)]
    · rw [h7 x hx, st_ne _ _ _ (by omega)]
theorem q_doLast {m : pMem} {c l : Nat} (hc : c < 12) (h6 : m.1 9 6 = nI (c + 1)) (h73 : m.1 73 c = nI l) (k a b s : Int32) : ∃ m', sX9_doLast k a b s m = some (0, m') ∧ dLast c k a b s (nI l) 0 m m' := by
  unfold sX9_doLast
  rw [h6, bnd_eq, nI_pred, if_neg (noob (by omega) (by omega)), nI_clamp (by omega), h73, bnd_eq]
  exact l_doLast hc k a b s (nI l) 8 0 5000 (by omega) (by omega) m
/-- lands come -/
def dCome (a u : Int32) (i n : Nat) (m m' : pMem) : Prop := m'.2 = m.2 ∧ (∀ q, q ≠ 66 → q ≠ 67 → m'.1 q = m.1 q) ∧ (∀ x, i ≤ x → x < n → m'.1 66 x = a ∧ m'.1 67 x = u) ∧ (∀ x, (x < i ∨ n ≤ x) → m'.1 66 x = m.1 66 x ∧ m'.1 67 x = m.1 67 x)
theorem l263_s (f : Nat) : sX9_change_l263 (f + 1) = sX9_change_b263 (sX9_change_l263 f) := rfl
theorem l_come {l e : Nat} (hl : l + e ≤ 10) (k u a b s : Int32) : ∀ (j i f : Nat), i + j = l + e → j < f → ∀ m : pMem, m.1 9 3 = nI l → ∃ m' f', sX9_change_l263 f k u a b s (nI e) (nI i) m = sX9_change_b263 (sX9_change_l263 f') k u a b s (nI e) (nI (l + e)) m' ∧ dCome a u i (l + e) m m' := by
  intro j
  induction j with
  | zero =>
    intro i f hij hf m h3
    obtain ⟨f, rfl⟩ := fuel_s (Nat.lt_of_le_of_lt (Nat.zero_le _) hf)
    have : i = l + e := by omega
    subst this
    rw [l263_s]
    exact ⟨m, f, rfl, rfl, fun _ _ _ => rfl, fun x x1 x2 => absurd x2 (by omega), fun _ _ => ⟨rfl, rfl⟩⟩
  | succ j ih =>
    intro i f hij hf m h3
    obtain ⟨f, rfl⟩ := fuel_s (Nat.lt_of_le_of_lt (Nat.zero_le _) hf)
    obtain ⟨m', f', h1, h2, h4, h5, h6⟩ := ih (i + 1) f (by omega) (by omega) (st1 (st1 m 66 i a) 67 i u) h3
    refine ⟨m', f', ?_, h2, fun q q1 q2 => ?_, fun x x1 x2 => ?_, fun x x1 => ?_⟩
    · rw [← h1, l263_s]
      unfold sX9_change_b263
      rw [h3, nI_add, if_neg (nI_ge (by omega) (by omega)), if_neg (noob (by omega) (by omega)), bnd_eq, if_neg (noob (by omega) (by omega)), bnd_eq, nI_1, nI_clamp (by omega)]
    · rw [h4 q q1 q2, st_ne _ _ _ q2, st_ne _ _ _ q1]
    · rcases Nat.lt_or_ge i x with z | z
      · exact h5 x z x2
      · have : x = i := by omega
        subst this
        obtain ⟨y1, y2⟩ := h6 x (by omega)
        rw [y1, y2, st_eq, st_ne _ _ _ (by omega), st_eq]
        exact ⟨rfl, rfl⟩
    · obtain ⟨y1, y2⟩ := h6 x (by omega)
      rw [y1, y2, st_at _ _ _ (by omega), st_ne _ _ _ (by omega), st_at _ _ _ (by omega), st_ne _ _ _ (by omega)]
      exact ⟨rfl, rfl⟩
/-- what a change leaves in the other side -/
def dChg9 (c l : Nat) (k u a b s : Int32) (m m' : pMem) : Prop :=
  m'.2 = m.2 ∧ (∀ q, q < 64 → q ≠ 9 → m'.1 q = m.1 q) ∧ (∀ q, 76 ≤ q → m'.1 q = m.1 q) ∧ (∀ q, q ≠ 3 → q ≠ 6 → m'.1 9 q = m.1 9 q) ∧ m'.1 9 3 = nI (l + come k) ∧ m'.1 9 6 = nI (c + 1)
  ∧ m'.1 64 = m.1 64 ∧ m'.1 65 = m.1 65 ∧ m'.1 68 = upd (m.1 68) c k ∧ m'.1 69 = upd (m.1 69) c u ∧ m'.1 70 = upd (m.1 70) c a ∧ m'.1 71 = upd (m.1 71) c b ∧ m'.1 72 = upd (m.1 72) c s ∧ m'.1 73 = upd (m.1 73) c (nI l)
  ∧ (∀ x, l ≤ x → x < l + come k → m'.1 66 x = a ∧ m'.1 67 x = u) ∧ (∀ x, (x < l ∨ l + come k ≤ x) → m'.1 66 x = m.1 66 x ∧ m'.1 67 x = m.1 67 x)
  ∧ (∀ x, x < 8 → m'.1 74 (8 * (c + 1) + x) = owS k a b s (nI l) x (m.1 74 (8 * c + x))) ∧ (∀ x, x < 8 * (c + 1) → m'.1 74 x = m.1 74 x)
  ∧ m'.1 75 (c + 1) = thS k a b (nI l) (m.1 75 c) ∧ (∀ x, x ≠ c + 1 → m'.1 75 x = m.1 75 x)
theorem q_chg9 {m : pMem} {c l : Nat} (hc : c < 12) (h6 : m.1 9 6 = nI c) (h3 : m.1 9 3 = nI l) (k u a b s : Int32) (hl : l + come k ≤ 10) : ∃ m', sX9_change_l263 5000 k u a b s (nI (come k)) (nI l) (cB9 m c l k u a b s) = some (if come k = 0 then a else nI l, m') ∧ dChg9 c l k u a b s m m' := by
  obtain ⟨m1, f', e1, f2, f3, f4, f5⟩ := l_come hl k u a b s (come k) l 5000 rfl (by omega) (cB9 m c l k u a b s) h3
  rw [e1]
  have g3 : m1.1 9 3 = nI l := by rw [f3 9 (by omega) (by omega)]; exact h3
  have g6 : m1.1 9 6 = nI c := by rw [f3 9 (by omega) (by omega)]; exact h6
  have g73 : m1.1 73 c = nI l := by rw [f3 73 (by omega) (by omega)]; exact st_eq _ _ _ _
  obtain ⟨m2, e2, d2, d3, d4, d5, d6, d7⟩ := q_doLast (m := st1 (st1 m1 9 3 (nI (l + come k))) 9 6 (nI (c + 1))) hc rfl (l := l) g73 k a b s
  have k9 : m2.1 9 = (st1 (st1 m1 9 3 (nI (l + come k))) 9 6 (nI (c + 1))).1 9 := d3 9 (by omega) (by omega)
  refine ⟨m2, ?_, ?_⟩
  · unfold sX9_change_b263 sX9_change_b348
    rw [g3, nI_add, if_pos (nI_le (Nat.le_refl _) (by omega)), bnd_eq]
    rw [show (st1 m1 9 3 (nI (l + come k))).1 9 6 = nI c from g6, nI_1, bnd_eq, e2, cbE_some]
    by_cases hk : come k = 0
    · rw [if_pos hk, if_pos (by rw [hk]; decide)]
    · rw [if_neg hk, if_neg (show ¬ nI (come k) ≤ 0 from fun z => hk (by have := (le_iff (a := come k) (b := 0) (by omega) (by omega)).mp z; omega))]
      rw [show m2.1 9 6 = nI (c + 1) by rw [k9]; exact st_eq _ _ _ _, nI_pred, if_neg (noob (by omega) (by omega)), nI_clamp (by omega), d3 73 (by omega) (by omega)]
      rw [show (st1 (st1 m1 9 3 (nI (l + come k))) 9 6 (nI (c + 1))).1 73 c = m1.1 73 c from rfl, g73]
  · have fr : ∀ q, q ≠ 74 → q ≠ 75 → q ≠ 66 → q ≠ 67 → q ≠ 9 → m2.1 q = (cB9 m c l k u a b s).1 q := by
      intro q q1 q2 q3 q4 q5
      rw [d3 q q1 q2, st_ne _ _ _ q5, st_ne _ _ _ q5, f3 q q3 q4]
    have cb : ∀ q, (q < 68 ∨ 74 ≤ q) → (cB9 m c l k u a b s).1 q = m.1 q := by
      intro q hq
      unfold cB9
      rw [st_ne _ _ _ (by omega), st_ne _ _ _ (by omega), st_ne _ _ _ (by omega), st_ne _ _ _ (by omega), st_ne _ _ _ (by omega), st_ne _ _ _ (by omega)]
    have o74 : ∀ x, (st1 (st1 m1 9 3 (nI (l + come k))) 9 6 (nI (c + 1))).1 74 x = m.1 74 x := by
      intro x
      rw [st_ne _ _ _ (by omega), st_ne _ _ _ (by omega), f3 74 (by omega) (by omega), cb 74 (by omega)]
    have o75 : ∀ x, (st1 (st1 m1 9 3 (nI (l + come k))) 9 6 (nI (c + 1))).1 75 x = m.1 75 x := by
      intro x
      rw [st_ne _ _ _ (by omega), st_ne _ _ _ (by omega), f3 75 (by omega) (by omega), cb 75 (by omega)]
    have o66 : ∀ q, q ≠ 74 → q ≠ 75 → q ≠ 9 → m2.1 q = m1.1 q := fun q q1 q2 q3 => by rw [d3 q q1 q2, st_ne _ _ _ q3, st_ne _ _ _ q3]
    refine ⟨d2.trans f2, fun q q1 q2 => ?_, fun q q1 => ?_, fun q q1 q2 => ?_, ?_, ?_, ?_, ?_, ?_, ?_, ?_, ?_, ?_, ?_, ?_, ?_, ?_, ?_, ?_, ?_⟩
    · rw [fr q (by omega) (by omega) (by omega) (by omega) q2, cb q (by omega)]
    · rw [fr q (by omega) (by omega) (by omega) (by omega) (by omega), cb q (by omega)]
    · rw [k9, st_at _ _ _ q2, st_at _ _ _ q1, f3 9 (by omega) (by omega), cb 9 (by omega)]
    · rw [k9, st_at _ _ _ (by omega), st_eq]
    · rw [k9, st_eq]
    · rw [fr 64 (by omega) (by omega) (by omega) (by omega) (by omega), cb 64 (by omega)]
    · rw [fr 65 (by omega) (by omega) (by omega) (by omega) (by omega), cb 65 (by omega)]
    · rw [fr 68 (by omega) (by omega) (by omega) (by omega) (by omega)]; rfl
    · rw [fr 69 (by omega) (by omega) (by omega) (by omega) (by omega)]; rfl
    · rw [fr 70 (by omega) (by omega) (by omega) (by omega) (by omega)]; rfl
    · rw [fr 71 (by omega) (by omega) (by omega) (by omega) (by omega)]; rfl
    · rw [fr 72 (by omega) (by omega) (by omega) (by omega) (by omega)]; rfl
    · rw [fr 73 (by omega) (by omega) (by omega) (by omega) (by omega)]; rfl
    · intro x x1 x2
      rw [o66 66 (by omega) (by omega) (by omega), o66 67 (by omega) (by omega) (by omega)]
      exact f4 x x1 x2
    · intro x x1
      rw [o66 66 (by omega) (by omega) (by omega), o66 67 (by omega) (by omega) (by omega)]
      have z := f5 x x1
      rw [cb 66 (by omega), cb 67 (by omega)] at z
      exact z
    · intro x x1
      rw [d4 x (by omega) x1, o74]
    · intro x x1
      rw [d5 x (by omega), o74]
    · rw [d6, o75]
    · intro x hx
      rw [d7 x hx, o75]
