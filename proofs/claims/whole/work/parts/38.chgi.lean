/-! the invariant behind a change -/
theorem mv_bt {R : Nat → Int32} {x y : Nat} (hxy : x ≠ y) (s : Int32) (q i : Nat) (hi : i < 32) : bt (mvR R x y s q) i = if q = y then (bt (R y) i || bt s i) else if q = x then (bt (R x) i && !bt s i) else bt (R q) i := by
  by_cases e : q = y
  · subst e
    rw [if_pos rfl]
    show bt (upd (upd R x _) q _ q) i = _
    rw [upd_eq, b_or, upd_ne _ _ (Ne.symm hxy)]
  · rw [if_neg e]
    show bt (upd (upd R x _) y _ q) i = _
    rw [upd_ne _ _ e]
    by_cases f : q = x
    · subst f
      rw [if_pos rfl, upd_eq, b_and, b_xor, b_m1 i hi]
      simp
    · rw [if_neg f, upd_ne _ _ f]
/-- the owner behind a change, as a number -/
def owN (k : Int32) (a b l : Nat) (S : Bool) (o : Nat) : Nat :=
  if k = 0 then (if o = a then (if S = true then l else a) else o)
  else if k = 1 then (if o = a then (if S = true then l else l + 1) else o)
  else if k = 2 then (if o = b then a else o)
  else if k = 3 then (if S = true then (if o = a then b else o) else o) else o
theorem owS_N {k : Int32} {a b l o i : Nat} {bb s : Int32} (ha : a < 12) (ho : o < 12) (hb : (k = 2 ∨ k = 3) → bb = nI b ∧ b < 12) : owS k (nI a) bb s (nI l) i (nI o) = nI (owN k a b l (bt s i) o) := by
  have eI : ∀ x y, x < 12 → y < 12 → (nI x = nI y ↔ x = y) := fun x y hx hy => ⟨fun z => nI_inj (by omega) (by omega) z, fun z => by rw [z]⟩
  unfold owS owN
  have i1 : nI l + 1 = nI (l + 1) := nI_1 l
  by_cases k0 : k = 0
  · by_cases e : o = a
    · have e' := (eI o a ho ha).mpr e
      cases f : bt s i <;> simp [k0, e]
    · have e' : ¬ nI o = nI a := fun z => e ((eI o a ho ha).mp z)
      simp [k0, e, e']
  · by_cases k1 : k = 1
    · by_cases e : o = a
      · cases f : bt s i <;> simp [k1, e, i1]
      · have e' : ¬ nI o = nI a := fun z => e ((eI o a ho ha).mp z)
        simp [k1, e, e']
    · by_cases k2 : k = 2
      · obtain ⟨hb1, hb2⟩ := hb (Or.inl k2)
        by_cases e : o = b
        · simp [k2, e, hb1]
        · have e' : ¬ nI o = nI b := fun z => e ((eI o b ho hb2).mp z)
          simp [k2, e, e', hb1]
      · by_cases k3 : k = 3
        · obtain ⟨hb1, hb2⟩ := hb (Or.inr k3)
          by_cases e : o = a
          · cases f : bt s i <;> simp [k3, e, hb1]
          · have e' : ¬ nI o = nI a := fun z => e ((eI o a ho ha).mp z)
            cases f : bt s i <;> simp [k3, e, e', hb1]
        · simp [k0, k1, k2, k3]
theorem row_own {k : Int32} {a b l o g i q : Nat} {bb s : Int32} {R : Nat → Int32} (hi : i < 32) (ha : a < l) (hl : l + come k ≤ 10) (ho : o < l) (hq : q < 10)
    (hR : ∀ x, x < 10 → bt (R x) i = decide (i < g ∧ nI o = nI x)) (hs : (k = 0 ∨ k = 1 ∨ k = 3) → bt s i = true → i < g ∧ o = a) (hb : (k = 2 ∨ k = 3) → bb = nI b ∧ b < l ∧ b ≠ a) :
    bt (rowS k a b l s R q) i = decide (i < g ∧ owS k (nI a) bb s (nI l) i (nI o) = nI q) := by
  have hl10 : l ≤ 10 := by omega
  have hR' : ∀ x, x < 10 → bt (R x) i = decide (i < g ∧ o = x) := by
    intro x hx
    rw [hR x hx]
    exact decide_eq_decide.mpr ⟨fun z => ⟨z.1, nI_inj (by omega) (by omega) z.2⟩, fun z => ⟨z.1, by rw [z.2]⟩⟩
  rw [owS_N (b := b) (by omega) (by omega) (fun z => ⟨(hb z).1, by have := (hb z).2.1; omega⟩)]
  have hw : owN k a b l (bt s i) o < 12 := by
    unfold owN
    by_cases k0 : k = 0
    · rw [if_pos k0]; repeat' split
      all_goals omega
    · rw [if_neg k0]
      by_cases k1 : k = 1
      · rw [if_pos k1]; repeat' split
        all_goals omega
      · rw [if_neg k1]
        by_cases k2 : k = 2
        · rw [if_pos k2]; repeat' split
          all_goals omega
        · rw [if_neg k2]
          by_cases k3 : k = 3
          · have := (hb (Or.inr k3)).2.1
            rw [if_pos k3]; repeat' split
            all_goals omega
          · rw [if_neg k3]; omega
  have ed : decide (i < g ∧ nI (owN k a b l (bt s i) o) = nI q) = decide (i < g ∧ owN k a b l (bt s i) o = q) := decide_eq_decide.mpr ⟨fun z => ⟨z.1, nI_inj (by omega) (by omega) z.2⟩, fun z => ⟨z.1, by rw [z.2]⟩⟩
  rw [ed]
  unfold rowS owN
  by_cases k0 : k = 0
  · have cm : come k = 1 := by rw [k0]; rfl
    have hs' := hs (Or.inl k0)
    simp only [if_pos k0]
    rw [mv_bt (by omega) s q i hi, hR' l (by omega), hR' a (by omega), hR' q hq, Bool.eq_iff_iff]
    cases hv : bt s i
    · simp only [Bool.or_false, Bool.not_false, Bool.and_true, Bool.false_eq_true, if_false, decide_eq_true_eq]
      repeat' split
      all_goals (simp only [decide_eq_true_eq] <;> omega)
    · have := hs' hv
      simp only [Bool.or_true, Bool.not_true, Bool.and_false, if_true, decide_eq_true_eq]
      repeat' split
      all_goals (simp only [decide_eq_true_eq, Bool.false_eq_true, true_iff, false_iff] <;> omega)
  · simp only [if_neg k0]
    by_cases k1 : k = 1
    · have cm : come k = 2 := by rw [k1]; rfl
      have hs' := hs (Or.inr (Or.inl k1))
      simp only [if_pos k1]
      rw [mv_bt (by omega) _ q i hi, mv_bt (show a ≠ l by omega) s (l + 1) i hi, mv_bt (show a ≠ l by omega) s a i hi, mv_bt (show a ≠ l by omega) s q i hi, if_neg (show ¬ l + 1 = l by omega), if_neg (show ¬ l + 1 = a by omega), if_neg (show ¬ a = l by omega), if_pos rfl, hR' l (by omega), hR' a (by omega), hR' q hq, hR' (l + 1) (by omega), Bool.eq_iff_iff]
      cases hv : bt s i
      · simp only [Bool.or_false, Bool.not_false, Bool.and_true, Bool.false_eq_true, if_false, decide_eq_true_eq]
        repeat' split
        all_goals (simp only [decide_eq_true_eq, Bool.or_eq_true, Bool.and_eq_true, Bool.not_eq_true', decide_eq_false_iff_not] <;> omega)
      · have := hs' hv
        simp only [Bool.or_true, Bool.not_true, Bool.and_false, if_true, decide_eq_true_eq]
        repeat' split
        all_goals (simp only [decide_eq_true_eq, Bool.or_eq_true, Bool.and_eq_true, Bool.not_eq_true', decide_eq_false_iff_not, Bool.false_eq_true, true_iff, false_iff, or_false, Bool.not_false, Bool.and_true] <;> omega)
    · simp only [if_neg k1]
      by_cases k2 : k = 2
      · obtain ⟨hb1, hb2, hb3⟩ := hb (Or.inl k2)
        simp only [if_pos k2]
        rw [mv_bt hb3 _ q i hi, hR' a (by omega), hR' b (by omega), hR' q hq, Bool.eq_iff_iff]
        repeat' split
        all_goals (simp only [decide_eq_true_eq, Bool.or_eq_true, Bool.and_eq_true, Bool.not_eq_true', decide_eq_false_iff_not] <;> omega)
      · simp only [if_neg k2]
        by_cases k3 : k = 3
        · obtain ⟨hb1, hb2, hb3⟩ := hb (Or.inr k3)
          have hs' := hs (Or.inr (Or.inr k3))
          simp only [if_pos k3]
          rw [mv_bt (Ne.symm hb3) s q i hi, hR' a (by omega), hR' b (by omega), hR' q hq, Bool.eq_iff_iff]
          cases hv : bt s i
          · simp only [Bool.or_false, Bool.not_false, Bool.and_true, Bool.false_eq_true, if_false, decide_eq_true_eq]
            repeat' split
            all_goals (simp only [decide_eq_true_eq] <;> omega)
          · have := hs' hv
            simp only [Bool.or_true, Bool.not_true, Bool.and_false, if_true, decide_eq_true_eq]
            repeat' split
            all_goals (simp only [decide_eq_true_eq, Bool.false_eq_true, true_iff, false_iff] <;> omega)
        · simp only [if_neg k3]
          rw [hR' q hq]
