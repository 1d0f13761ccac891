/-! changes: what both sides turn down, in one order -/
theorem lt_n {a b c : Int32} (h : ¬ a < b) (h2 : c < b) : c < a := by
  have : b ≤ a := Int32.not_lt.mp h
  exact Int32.lt_of_lt_of_le h2 this
theorem mxF_not {f : Nat → Int32} {u : Int32} (n : Nat) : ¬ u ≤ mxF f (n + 1) ↔ ¬ u ≤ mxF f n ∧ ¬ u ≤ f n := by
  show ¬ u ≤ (if mxF f n < f n then f n else mxF f n) ↔ _
  by_cases e : mxF f n < f n
  · rw [if_pos e]
    constructor
    · intro z
      exact ⟨fun y => z (Int32.le_trans y (Int32.le_of_lt e)), z⟩
    · exact fun z => z.2
  · rw [if_neg e]
    constructor
    · intro z
      exact ⟨z, fun y => z (Int32.le_trans y (Int32.not_lt.mp e))⟩
    · exact fun z => z.1
theorem mxF_z {u : Int32} (h : ¬ u < 0) {f : Nat → Int32} : ¬ u ≤ mxF f 0 := by
  show ¬ u ≤ (-1 : Int32)
  intro z
  exact h (Int32.lt_of_le_of_lt z (by decide))
theorem l_late2 {m : pMem} {n : Nat} (hn : n ≤ 8) (h : m.1 9 46 = nI n) (u : Int32) (P : Prop) [Decidable P] : ∀ (j i f : Nat), i + j = n → j < f → ∀ x, x = bI (P ∧ ¬ u ≤ mxF (m.1 98) i) → sX9_isLate_l40 f u x (nI i) m = some (bI (P ∧ ¬ u ≤ mxF (m.1 98) n)) := by
  intro j
  induction j with
  | zero =>
    intro i f hij hf x hx
    obtain ⟨f, rfl⟩ := fuel_s (Nat.lt_of_le_of_lt (Nat.zero_le _) hf)
    have : i = n := by omega
    subst this
    show sX9_isLate_b40 _ _ _ _ _ = _
    unfold sX9_isLate_b40
    rw [if_pos (by rw [h]; exact nI_le (Nat.le_refl _) (by omega)), hx, nar_bI]
  | succ j ih =>
    intro i f hij hf x hx
    obtain ⟨f, rfl⟩ := fuel_s (Nat.lt_of_le_of_lt (Nat.zero_le _) hf)
    show sX9_isLate_b40 (sX9_isLate_l40 f) _ _ _ _ = _
    unfold sX9_isLate_b40 sX9_isLate_b66 sX9_isLate_b67
    rw [if_neg (by rw [h]; exact nI_ge (by omega) (by omega)), nI_1]
    by_cases hp : P ∧ ¬ u ≤ mxF (m.1 98) i
    · rw [hx, bI_t hp, if_neg n10, if_neg (noob (by omega) (by omega)), nI_clamp (by omega)]
      by_cases e : u ≤ m.1 98 i
      · rw [if_pos e]
        exact ih (i + 1) f (by omega) (by omega) 0 (bI_f (fun z => ((mxF_not i).mp z.2).2 e)).symm
      · rw [if_neg e]
        exact ih (i + 1) f (by omega) (by omega) 1 (bI_t ⟨hp.1, (mxF_not i).mpr ⟨hp.2, e⟩⟩).symm
    · rw [hx, bI_f hp, if_pos rfl]
      exact ih (i + 1) f (by omega) (by omega) 0 (bI_f (fun z => hp ⟨z.1, ((mxF_not i).mp z.2).1⟩)).symm
theorem l_late1 {m : pMem} {n p : Nat} (hn : n ≤ 8) (h : m.1 9 46 = nI n) (hp8 : p ≤ 12) (hp : m.1 9 26 = nI p) {u : Int32} (hu : ¬ u < 0) : ∀ (j i f : Nat), i + j = p → j < f → ∀ x, x = bI (¬ u ≤ mxF (m.1 83) i) → sX9_isLate_l4 f u x (nI i) m = some (bI (¬ u ≤ mxF (m.1 83) p ∧ ¬ u ≤ mxF (m.1 98) n)) := by
  intro j
  induction j with
  | zero =>
    intro i f hij hf x hx
    obtain ⟨f, rfl⟩ := fuel_s (Nat.lt_of_le_of_lt (Nat.zero_le _) hf)
    have : i = p := by omega
    subst this
    show sX9_isLate_b4 _ _ _ _ _ = _
    unfold sX9_isLate_b4
    rw [if_pos (by rw [hp]; exact nI_le (Nat.le_refl _) (by omega))]
    refine l_late2 hn h u _ n 0 5000 (by omega) (by omega) x ?_
    rw [hx]
    exact bI_congr ⟨fun z => ⟨z, mxF_z hu⟩, fun z => z.1⟩
  | succ j ih =>
    intro i f hij hf x hx
    obtain ⟨f, rfl⟩ := fuel_s (Nat.lt_of_le_of_lt (Nat.zero_le _) hf)
    show sX9_isLate_b4 (sX9_isLate_l4 f) _ _ _ _ = _
    unfold sX9_isLate_b4 sX9_isLate_b30 sX9_isLate_b31
    rw [if_neg (by rw [hp]; exact nI_ge (by omega) (by omega)), nI_1]
    by_cases hq : ¬ u ≤ mxF (m.1 83) i
    · rw [hx, bI_t hq, if_neg n10, if_neg (noob (by omega) (by omega)), nI_clamp (by omega)]
      by_cases e : u ≤ m.1 83 i
      · rw [if_pos e]
        exact ih (i + 1) f (by omega) (by omega) 0 (bI_f (fun z => ((mxF_not i).mp z).2 e)).symm
      · rw [if_neg e]
        exact ih (i + 1) f (by omega) (by omega) 1 (bI_t ((mxF_not i).mpr ⟨hq, e⟩)).symm
    · rw [hx, bI_f hq, if_pos rfl]
      exact ih (i + 1) f (by omega) (by omega) 0 (bI_f (fun z => hq ((mxF_not i).mp z).1)).symm
/-- the day may be a change's day -/
abbrev cDay (m : pMem) (c p d : Nat) (u : Int32) : Prop := inR u 0 999 ∧ (c = 0 ∨ ¬ u < m.1 69 (c - 1)) ∧ ¬ u ≤ mxF (m.1 83) p ∧ ¬ u ≤ mxF (m.1 98) d
theorem p_may {m : pMem} {c g l p d : Nat} (h : IH m c g l) (hp : m.1 4 9 = mxF (m.1 83) p) (hd : m.1 2 6 = mxF (m.1 98) d) (u : Int32) : sX8_mayChangeOn u m = some (bI (cDay m c p d u)) := by
  unfold sX8_mayChangeOn sX8_mayChangeOn_b44 sX8_mayChangeOn_b45
  have hc := h.cle
  rw [p_day8, cbR_some, nar0, nar1]
  by_cases hu : inR u 0 999
  · rw [bI_t hu, if_neg n10]
    have core : ∀ x, sX2_latestDay m = some x → (u < x ↔ ¬ (c = 0 ∨ ¬ u < m.1 69 (c - 1))) → (cbR (sX2_latestDay m) fun r4 => if u < r4 then (some 0 : Option Int32) else if u ≤ m.1 4 9 then some 0 else if u ≤ m.1 2 6 then some 0 else some 1) = some (bI (cDay m c p d u)) := by
      intro x hx hi
      rw [hx, cbR_some, hp, hd]
      by_cases e1 : u < x
      · rw [if_pos e1, bI_f (fun z => hi.mp e1 z.2.1)]
      · rw [if_neg e1]
        have e1' : c = 0 ∨ ¬ u < m.1 69 (c - 1) := by
          by_cases z : c = 0 ∨ ¬ u < m.1 69 (c - 1)
          · exact z
          · exact absurd (hi.mpr z) e1
        by_cases e2 : u ≤ mxF (m.1 83) p
        · rw [if_pos e2, bI_f (fun z => z.2.2.1 e2)]
        · rw [if_neg e2]
          by_cases e3 : u ≤ mxF (m.1 98) d
          · rw [if_pos e3, bI_f (fun z => z.2.2.2 e3)]
          · rw [if_neg e3, bI_t ⟨hu, e1', e2, e3⟩]
    by_cases h0 : c = 0
    · refine core 0 ?_ ?_
      · unfold sX2_latestDay sX2_latestDay_b22
        rw [h.c3, h0, if_neg (show ¬ ¬ nI 0 = 0 from not_not_intro rfl)]
      · exact ⟨fun z => absurd z hu.1, fun z => absurd (Or.inl h0) z⟩
    · refine core (m.1 69 (c - 1)) ?_ ?_
      · unfold sX2_latestDay sX2_latestDay_b22
        obtain ⟨c', rfl⟩ : ∃ c', c = c' + 1 := ⟨c - 1, by omega⟩
        rw [h.c3, if_pos (show ¬ nI (c' + 1) = 0 from fun z => h0 (nI_inj (b := 0) (by omega) (by omega) z)), nI_pred, if_neg (noob (by omega) (by omega)), nI_clamp (by omega), h.day]
        rfl
      · constructor
        · rintro z (y | y)
          · exact h0 y
          · exact y z
        · intro z
          by_cases y : u < m.1 69 (c - 1)
          · exact y
          · exact absurd (Or.inr y) z
  · rw [bI_f hu, if_pos rfl, bI_f (fun z => hu z.1)]
/-- lands that a change brings -/
def come (k : Int32) : Nat := if k = 0 then 1 else if k = 1 then 2 else 0
/-- some, but not all -/
abbrev someOf (x s : Int32) : Prop := s ≠ 0 ∧ s ≠ x ∧ s &&& (x ^^^ (-1 : Int32)) = 0
def cRef (m : pMem) (c g l p d : Nat) (k u a b s : Int32) : Int32 :=
  if ¬ inR k 0 4 then -3 else if ¬ cDay m c p d u then -3
  else if ¬ isTh (m.1 75 c) a l then -2 else if (k = 2 ∨ k = 3) ∧ ¬ isTh (m.1 75 c) b l then -2
  else if (k = 2 ∨ k = 3) ∧ a = b then -4
  else if (k = 0 ∨ k = 1 ∨ k = 3) ∧ ¬ someOf (gof (m.1 74) a c g) s then -4
  else if k = 4 ∧ m.1 66 (nv a) = -1 then -4
  else if 12 ≤ c then -5 else if l + come k ≤ 10 then 0 else -5
theorem p_some8 {m : pMem} {c g l : Nat} (h : IH m c g l) {a : Nat} (ha : a < l) (s : Int32) : sX2_isSomeNotAll s (nI a) m = some (bI (someOf (gof (m.1 74) (nI a) c g) s)) := by
  have hc := h.cle
  have hl := h.lle
  unfold sX2_isSomeNotAll sX2_isSomeNotAll_b33 sX2_isSomeNotAll_b34
  rw [h.c3, if_neg (noob (by omega) (by omega)), if_neg (noob (by omega) (by omega)), nI_clamp (by omega), nI_clamp (by omega), bnd_eq, h.rows c (Nat.le_refl _) a (by omega), nar0, nar1]
  by_cases h1 : s = 0
  · rw [if_pos h1, bI_f (fun z => z.1 h1)]
  · rw [if_neg h1]
    by_cases h2 : s = gof (m.1 74) (nI a) c g
    · rw [if_pos h2, bI_f (fun z => z.2.1 h2)]
    · rw [if_neg h2]
      by_cases h3 : s &&& (gof (m.1 74) (nI a) c g ^^^ (-1 : Int32)) = 0
      · rw [if_neg (not_not_intro h3), bI_t ⟨h1, h2, h3⟩]
      · rw [if_pos h3, bI_f (fun z => h3 z.2.2)]
theorem lt0_b (s : Int32) : s < 0 ↔ bt s 31 = true := by
  rw [Int32.lt_iff_toBitVec_slt]
  show s.toBitVec.slt 0#32 = true ↔ s.toBitVec.getLsbD 31 = true
  rw [BitVec.slt_zero_eq_msb, BitVec.msb_eq_getLsbD_last]
theorem gof_in {ow : Nat → Int32} {l : Int32} {c n : Nat} {s : Int32} (hn : n ≤ 8) (h : s &&& (gof ow l c n ^^^ (-1 : Int32)) = 0) {i : Nat} (hi : i < 32) (hb : bt s i = true) : i < n ∧ ow (8 * c + i) = l := by
  have e : bt (s &&& (gof ow l c n ^^^ (-1 : Int32))) i = false := by rw [h, b_0]
  rw [b_and, hb, b_xor, b_m1 i hi, gof_bt ow l c n (by omega) i hi] at e
  by_cases z : i < n ∧ ow (8 * c + i) = l
  · exact z
  · simp [z] at e
theorem p_some9 {m : pMem} {c g l : Nat} (h : IH m c g l) {a : Int32} (s : Int32) : sX9_isSome s a m = some (bI (someOf (gof (m.1 74) a c g) s)) := by
  have hg := h.gle
  unfold sX9_isSome sX9_isSome_b31 sX9_isSome_b32
  rw [h.c9, h.groundsOf (Nat.le_refl _), cbR_some, nar0, nar1]
  by_cases h3 : s &&& (gof (m.1 74) a c g ^^^ (-1 : Int32)) = 0
  · have hs : ¬ s < 0 := fun z => by
      have := (gof_in hg h3 (by omega) ((lt0_b s).mp z)).1
      omega
    by_cases h1 : s = 0
    · rw [if_pos (by rw [h1]; decide), bI_f (fun z => z.1 h1)]
    · rw [if_neg (fun z => h1 (Int32.le_antisymm z (Int32.not_lt.mp hs))), if_neg (not_not_intro h3)]
      by_cases h2 : s = gof (m.1 74) a c g
      · rw [if_pos h2, bI_f (fun z => z.2.1 h2)]
      · rw [if_neg h2, bI_t ⟨h1, h2, h3⟩]
  · rw [bI_f (fun z => h3 z.2.2)]
    by_cases h1 : s ≤ 0
    · rw [if_pos h1]
    · rw [if_neg h1, if_pos h3]

theorem le_12 {c : Nat} (h : c ≤ 12) : (12 : Int32) ≤ nI c ↔ 12 ≤ c := le_iff (a := 12) (by omega) (by omega)
theorem eq_12 {c : Nat} (h : c ≤ 12) : nI c = (12 : Int32) ↔ 12 ≤ c := ⟨fun z => by have := nI_inj (b := 12) (by omega) (by omega) z; omega, fun z => by rw [show c = 12 by omega]; rfl⟩
theorem le_10 {c : Nat} (h : c ≤ 100) : nI c ≤ (10 : Int32) ↔ c ≤ 10 := le_iff (b := 10) (by omega) (by omega)
theorem come_le (k : Int32) : come k ≤ 2 := by
  unfold come
  by_cases h : k = 0
  · rw [if_pos h]; omega
  · rw [if_neg h]
    by_cases h : k = 1
    · rw [if_pos h]; omega
    · rw [if_neg h]; omega
theorem s8_chg {m : pMem} {c g l p d : Nat} (h : IH m c g l) (hp : m.1 4 9 = mxF (m.1 83) p) (hd : m.1 2 6 = mxF (m.1 98) d) (k u a b s : Int32) : sX8_change k u a b s m = if cRef m c g l p d k u a b s = 0 then (cbE (sX0_mark u m) fun _ m33 => cbE (sX2_addChange k u a b s m33) fun r34 m36 => some (r34, m36)) else some (cRef m c g l p d k u a b s, m) := by
  have hc := h.cle
  have hl := h.lle
  generalize hR : cRef m c g l p d k u a b s = R
  generalize hX : (cbE (sX0_mark u m) fun _ m33 => cbE (sX2_addChange k u a b s m33) fun r34 m36 => some (r34, m36)) = X
  unfold cRef at hR
  unfold sX8_change sX8_change_b17
  by_cases h1 : inR k 0 4
  · rw [if_neg h1.1, if_neg h1.2, p_may h hp hd, cbR_some]
    rw [if_neg (not_not_intro h1)] at hR
    by_cases h2 : cDay m c p d u
    · rw [bI_t h2, if_pos n10, h.c3, bnd_eq]
      rw [if_neg (not_not_intro h2)] at hR
      -- the land and the other one
      have step : ∀ t0 : Int32, (t0 = 0 ↔ ¬ (k = 2 ∨ k = 3)) → sX8_change_b44 k u a b s (nI c) t0 m = if R = 0 then X else some (R, m) := by
        intro t0 ht
        unfold sX8_change_b44 sX8_change_b78
        rw [h.isThere2 (Nat.le_refl _), cbR_some]
        by_cases h3 : isTh (m.1 75 c) a l
        · rw [bI_t h3, if_neg n10]
          rw [if_neg (not_not_intro h3)] at hR
          obtain ⟨a', ha', rfl⟩ := (inN_iff (show l < 2 ^ 31 by omega)).mp h3.1
          rw [nv_nI (by omega)] at hR
          have fin : ¬ (k = 4 ∧ m.1 66 a' = -1) → (if k = 4 ∧ m.1 66 a' = -1 then (-4 : Int32) else if 12 ≤ c then -5 else if l + come k ≤ 10 then 0 else -5) = R → sX8_change_b146 k u (nI a') b s (nI c) m = if R = 0 then X else some (R, m) := by
            intro e1 hR
            rw [if_neg e1] at hR
            unfold sX8_change_b146 sX8_change_b170
            by_cases e2 : 12 ≤ c
            · rw [if_pos ((le_12 hc).mpr e2)]
              rw [if_pos e2] at hR
              subst hR
              rw [if_neg m5n0]
            · rw [if_neg (fun z => e2 ((le_12 hc).mp z))]
              rw [if_neg e2] at hR
              have hk : sX8_landsThatCome k m = some (nI (come k)) := by
                unfold sX8_landsThatCome sX8_landsThatCome_b18 come
                by_cases k1 : k = 1
                · rw [if_neg (not_not_intro k1), if_neg (show ¬ k = 0 by rw [k1]; decide), if_pos k1]; rfl
                · rw [if_pos k1, if_neg k1]
                  by_cases k0 : k = 0
                  · rw [if_neg (not_not_intro k0), if_pos k0]; rfl
                  · rw [if_pos k0, if_neg k0]; rfl
              rw [hk, cbR_some, h.l3, nI_add]
              have hcm := come_le k
              by_cases e3 : l + come k ≤ 10
              · rw [if_pos ((le_10 (by omega)).mpr e3)]
                rw [if_pos e3] at hR
                subst hR
                rw [if_pos rfl, ← hX]
              · rw [if_neg (fun z => e3 ((le_10 (by omega)).mp z))]
                rw [if_neg e3] at hR
                subst hR
                rw [if_neg m5n0]
          have four : (if k = 4 ∧ m.1 66 a' = -1 then (-4 : Int32) else if 12 ≤ c then -5 else if l + come k ≤ 10 then 0 else -5) = R → sX8_change_b125 k u (nI a') b s (nI c) m = if R = 0 then X else some (R, m) := by
            intro hR
            unfold sX8_change_b125
            by_cases k4 : k = 4
            · rw [if_neg (not_not_intro k4), if_neg (noob (by omega) (by omega)), nI_clamp (by omega), h.par]
              by_cases e : m.1 66 a' = -1
              · rw [if_neg (not_not_intro e)]
                rw [if_pos ⟨k4, e⟩] at hR
                subst hR
                rw [if_neg m4n0]
              · rw [if_pos e]
                exact fin (fun z => e z.2) hR
            · rw [if_pos k4]
              exact fin (fun z => k4 z.1) hR
          have some8 : (k = 0 ∨ k = 1 ∨ k = 3) → (if (k = 0 ∨ k = 1 ∨ k = 3) ∧ ¬ someOf (gof (m.1 74) (nI a') c g) s then (-4 : Int32) else if k = 4 ∧ m.1 66 a' = -1 then (-4 : Int32) else if 12 ≤ c then -5 else if l + come k ≤ 10 then 0 else -5) = R → sX8_change_b109 k u (nI a') b s (nI c) m = if R = 0 then X else some (R, m) := by
            intro hk hR
            unfold sX8_change_b109
            rw [p_some8 h ha', cbR_some]
            by_cases e : someOf (gof (m.1 74) (nI a') c g) s
            · rw [bI_t e, if_pos n10]
              rw [if_neg (fun z => z.2 e)] at hR
              exact four hR
            · rw [bI_f e, if_neg nn0]
              rw [if_pos ⟨hk, e⟩] at hR
              subst hR
              rw [if_neg m4n0]
          have kinds : (if (k = 0 ∨ k = 1 ∨ k = 3) ∧ ¬ someOf (gof (m.1 74) (nI a') c g) s then (-4 : Int32) else if k = 4 ∧ m.1 66 a' = -1 then (-4 : Int32) else if 12 ≤ c then -5 else if l + come k ≤ 10 then 0 else -5) = R → sX8_change_b95 k u (nI a') b s (nI c) m = if R = 0 then X else some (R, m) := by
            intro hR
            unfold sX8_change_b95
            by_cases k0 : k = 0
            · rw [if_pos k0]; exact some8 (Or.inl k0) hR
            · rw [if_neg k0]
              by_cases k1 : k = 1
              · rw [if_pos k1]; exact some8 (Or.inr (Or.inl k1)) hR
              · rw [if_neg k1]
                by_cases k3 : k = 3
                · rw [if_neg (not_not_intro k3)]; exact some8 (Or.inr (Or.inr k3)) hR
                · rw [if_pos k3]
                  rw [if_neg (fun z => z.1.elim k0 (fun y => y.elim k1 k3))] at hR
                  exact four hR
          have both : ¬ ((k = 2 ∨ k = 3) ∧ ¬ isTh (m.1 75 c) b l) → sX8_change_b81 k u (nI a') b s (nI c) t0 m = if R = 0 then X else some (R, m) := by
            intro hb
            rw [if_neg hb] at hR
            unfold sX8_change_b81
            by_cases e : t0 = 0
            · rw [if_pos e]
              rw [if_neg (fun z => ht.mp e z.1)] at hR
              exact kinds hR
            · rw [if_neg e]
              by_cases e2 : nI a' = b
              · rw [if_neg (not_not_intro e2)]
                have kk : k = 2 ∨ k = 3 := by
                  by_cases z : k = 2 ∨ k = 3
                  · exact z
                  · exact absurd (ht.mpr z) e
                rw [if_pos ⟨kk, e2⟩] at hR
                subst hR
                rw [if_neg m4n0]
              · rw [if_pos e2]
                rw [if_neg (fun z => e2 z.2)] at hR
                exact kinds hR
          by_cases e : t0 = 0
          · rw [if_pos e]
            exact both (fun z => ht.mp e z.1)
          · rw [if_neg e, h.isThere2 (Nat.le_refl _), cbR_some]
            have kk : k = 2 ∨ k = 3 := by
              by_cases z : k = 2 ∨ k = 3
              · exact z
              · exact absurd (ht.mpr z) e
            by_cases hb : isTh (m.1 75 c) b l
            · rw [bI_t hb, if_pos n10]
              exact both (fun z => z.2 hb)
            · rw [bI_f hb, if_neg nn0]
              rw [if_pos ⟨kk, hb⟩] at hR
              subst hR
              rw [if_neg m2n0]
        · rw [bI_f h3, if_pos rfl]
          rw [if_pos h3] at hR
          subst hR
          rw [if_neg m2n0]
      by_cases k2 : k = 2
      · rw [if_pos k2]
        exact step 1 ⟨fun z => absurd z (by decide), fun z => absurd (Or.inl k2) z⟩
      · rw [if_neg k2]
        by_cases k3 : k = 3
        · rw [if_neg (not_not_intro k3)]
          exact step 1 ⟨fun z => absurd z (by decide), fun z => absurd (Or.inr k3) z⟩
        · rw [if_pos k3]
          exact step 0 ⟨fun _ z => z.elim k2 k3, fun _ => rfl⟩
    · rw [bI_f h2, if_neg nn0]
      rw [if_pos h2] at hR
      subst hR
      rw [if_neg m3n0]
  · rw [if_pos h1] at hR
    subst hR
    rw [if_neg m3n0]
    by_cases k0 : k < 0
    · rw [if_pos k0]
    · rw [if_neg k0, if_pos (by
        by_cases z : (4 : Int32) < k
        · exact z
        · exact absurd ⟨k0, z⟩ h1)]
