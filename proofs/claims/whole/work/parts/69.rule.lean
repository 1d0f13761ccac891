/-! fault, rules -/
/-- what stands at first -/
def R0 (q : Nat) : Int32 := if q = 2 then 100 else 0
theorem R0_ok : okR R0 := ⟨Or.inl rfl, Or.inl rfl, ⟨100, by omega, rfl⟩, ⟨0, by omega, rfl⟩, ⟨0, by omega, rfl⟩⟩
theorem p_ff {m : pMem} {b : Nat} (h1 : m.1 6 1 = nI b) (hb : b ≤ 160) {T : Nat → Int32} (hT : m.1 52 = T) : sC m (sX5_firstFault m) (rdS T b 8 0 0 R0) := by
  obtain ⟨B, e1, e2⟩ := p_fill 54 (N := 5) (by omega) 0 m
  unfold sX5_firstFault
  rw [e1, cbE_some, show (2 : Int32).toNatClampNeg = 2 from rfl, st_up, bnd_eq, bnd_eq]
  have F : fr m (st1 (up1 m 54 (upd B 2 100)) 6 4 0) := (fr.up m (k := 54) (upd B 2 100) (by omega)).tr (fr.s6 _ (j := 4) 0 (by omega))
  exact (l_rd5 (T := T) hb 7 0 0 5000 R0 (st1 (up1 m 54 (upd B 2 100)) 6 4 0) (by omega) (by omega) (by omega) h1 hT rfl (fun q hq => by
    rw [st1_ne _ _ _ _ (by omega), up_at, upd_at]
    unfold R0
    by_cases z : q = 2
    · rw [if_pos z, if_pos z]
    · rw [if_neg z, if_neg z, e2 q hq])).tr F rfl
theorem fs_s (f : Nat) : sX9_firstRules_l2 (f + 1) = sX9_firstRules_b2 (sX9_firstRules_l2 f) := rfl
theorem l_fs (m : pMem) : ∀ (j i f : Nat), i + j = 5 → j < f → ∀ A : Nat → Int32, (∀ q, q < i → A q = R0 q) → ∃ B : Nat → Int32, sX9_firstRules_l2 f 77 (nI i) (up1 m 77 A) = some (0, up1 m 77 B) ∧ ∀ q, q < 5 → B q = R0 q := by
  intro j
  induction j with
  | zero =>
    intro i f hij hf A hA
    obtain ⟨f, rfl⟩ := fuel_s (Nat.lt_of_le_of_lt (Nat.zero_le _) hf)
    have : i = 5 := by omega
    subst this
    refine ⟨A, ?_, hA⟩
    rw [fs_s]
    unfold sX9_firstRules_b2
    rw [if_pos (show (5 : Int32) ≤ nI 5 by decide)]
  | succ j ih =>
    intro i f hij hf A hA
    obtain ⟨f, rfl⟩ := fuel_s (Nat.lt_of_le_of_lt (Nat.zero_le _) hf)
    obtain ⟨B, e1, e2⟩ := ih (i + 1) f (by omega) (by omega) (upd A i (R0 i)) (fun q hq => by
      rw [upd_at]
      by_cases z : q = i
      · rw [if_pos z, z]
      · rw [if_neg z]
        exact hA q (by omega))
    refine ⟨B, ?_, e2⟩
    rw [fs_s]
    unfold sX9_firstRules_b2 sX9_firstRules_b20
    rw [if_neg (show ¬ (5 : Int32) ≤ nI i from nI_ge (b := 5) (by omega) (by omega))]
    simp only [if_neg (noob (i := i) (n := 5) (by omega) (by omega)), nI_clamp (show i < 2 ^ 31 by omega), bnd_eq, st_up, nI_1]
    unfold R0 at e1
    by_cases z : i = 2
    · rw [if_pos z] at e1
      rw [if_neg (not_not_intro (show nI i = 2 by rw [z]; rfl))]
      exact e1
    · rw [if_neg z] at e1
      rw [if_pos (fun y : nI i = 2 => z (nI_inj (b := 2) (by omega) (by omega) y))]
      exact e1
theorem p_rd {m : pMem} {b : Nat} (h1 : m.1 9 15 = nI b) (hb : b ≤ 160) {T : Nat → Int32} (hT : m.1 76 = T) : sN m (sX9_isRead m) (rdS T b 8 0 0 R0) := by
  obtain ⟨B, e1, e2⟩ := l_fs (st1 (st1 m 9 17 0) 9 23 0) 5 0 5000 (by omega) (by omega) ((st1 (st1 m 9 17 0) 9 23 0).1 77) (fun q hq => absurd hq (Nat.not_lt_zero q))
  rw [up_id] at e1
  have e1' : sX9_firstRules 77 (st1 (st1 m 9 17 0) 9 23 0) = some (0, up1 (st1 (st1 m 9 17 0) 9 23 0) 77 B) := e1
  unfold sX9_isRead
  rw [bnd_eq, bnd_eq, e1', cbE_some]
  have F : fr m (up1 (st1 (st1 m 9 17 0) 9 23 0) 77 B) := ((fr.s9 m (j := 17) 0 (by omega)).tr (fr.s9 _ (j := 23) 0 (by omega))).tr (fr.up _ (k := 77) B (by omega))
  exact (l_rd9 (T := T) hb 7 0 0 5000 R0 (up1 (st1 (st1 m 9 17 0) 9 23 0) 77 B) (by omega) (by omega) (by omega) h1 hT rfl rfl (fun q hq => by rw [up_at]; exact e2 q hq)).tr F rfl
theorem q_fault {m : pMem} (I : Inv m) : ∃ r m1 m2, sX8_fault m = some (r, m1) ∧ sX9_fault m1 = some (r, m2) ∧ Inv m2 := by
  have I0 := I
  obtain ⟨c, g, l, p, w, v, d, t, n, b, h, hT, hP, hG⟩ := I
  have hb := hT.ble
  have c8 := p_ff hT.b6 hb hT.byt
  unfold sX8_fault sX9_fault sX9_fault_b15
  cases hr : rdS (m.1 76) b 8 0 0 R0 with
  | inl q =>
    rw [hr] at c8
    obtain ⟨ν, e1, f1, s1⟩ := c8
    have c9 := p_rd (m := ν) (b := b) (f1.T hT).b9 hb (T := m.1 76) (f1.1 76 (by omega) (by omega) (by omega) (by omega) (by omega) (by omega) (by omega) (by omega))
    rw [hr] at c9
    obtain ⟨ξ, e2, e3, f2, s2⟩ := c9
    refine ⟨nI q, ν, ξ, ?_, ?_, inv_fr I0 (f1.tr f2) (by rw [s2, s1]; exact hP.lft)⟩
    · rw [e1, cbE_some]
    · rw [e2, cbE_some, if_pos rfl, e3]
  | inr z =>
    rw [hr] at c8
    obtain ⟨ν, e1, -, -, f1, s1⟩ := c8
    have c9 := p_rd (m := ν) (b := b) (f1.T hT).b9 hb (T := m.1 76) (f1.1 76 (by omega) (by omega) (by omega) (by omega) (by omega) (by omega) (by omega) (by omega))
    rw [hr] at c9
    obtain ⟨ξ, e2, -, -, f2, s2⟩ := c9
    refine ⟨-1, ν, ξ, ?_, ?_, inv_fr I0 (f1.tr f2) (by rw [s2, s1]; exact hP.lft)⟩
    · rw [e1, cbE_some]
    · rw [e2, cbE_some, if_neg n10]
theorem ru_s (f : Nat) : sX9_rules_l12 (f + 1) = sX9_rules_b12 (sX9_rules_l12 f) := rfl
theorem l_ru (m : pMem) : ∀ (j i f : Nat), i + j = 5 → j < f → ∀ A : Nat → Int32, (∀ q, q < i → A q = m.1 77 q) → (∀ q, 5 ≤ q → A q = m.1 78 q) → ∃ B : Nat → Int32, sX9_rules_l12 f (nI i) (up1 m 78 A) = some (m.1 9 23, st1 (up1 m 78 B) 9 15 0) ∧ (∀ q, q < 5 → B q = m.1 77 q) ∧ (∀ q, 5 ≤ q → B q = m.1 78 q) := by
  intro j
  induction j with
  | zero =>
    intro i f hij hf A hA hA2
    obtain ⟨f, rfl⟩ := fuel_s (Nat.lt_of_le_of_lt (Nat.zero_le _) hf)
    have : i = 5 := by omega
    subst this
    refine ⟨A, ?_, hA, hA2⟩
    rw [ru_s]
    unfold sX9_rules_b12
    rw [if_pos (show (5 : Int32) ≤ nI 5 by decide), bnd_eq, st1_at, if_neg (by omega)]
    rfl
  | succ j ih =>
    intro i f hij hf A hA hA2
    obtain ⟨f, rfl⟩ := fuel_s (Nat.lt_of_le_of_lt (Nat.zero_le _) hf)
    obtain ⟨B, e1, e2, e3⟩ := ih (i + 1) f (by omega) (by omega) (upd A i (m.1 77 i)) (fun q hq => by
      rw [upd_at]
      by_cases z : q = i
      · rw [if_pos z, z]
      · rw [if_neg z]
        exact hA q (by omega)) (fun q hq => by
      rw [upd_ne _ _ (by omega)]
      exact hA2 q hq)
    refine ⟨B, ?_, e2, e3⟩
    rw [ru_s]
    unfold sX9_rules_b12
    rw [if_neg (show ¬ (5 : Int32) ≤ nI i from nI_ge (b := 5) (by omega) (by omega))]
    simp only [if_neg (noob (i := i) (n := 5) (by omega) (by omega)), nI_clamp (show i < 2 ^ 31 by omega), bnd_eq, st_up, nI_1]
    exact e1
theorem q_rules {m : pMem} (I : Inv m) : ∃ r m1 m2, sX8_rules m = some (r, m1) ∧ sX9_rules m1 = some (r, m2) ∧ Inv m2 := by
  have I0 := I
  obtain ⟨c, g, l, p, w, v, d, t, n, b, h, hT, hP, hG⟩ := I
  have hb := hT.ble
  have hQ := hP.toQ
  have c8 := p_ff hT.b6 hb hT.byt
  have ok := rd_ok (T := m.1 76) (b := b) (j := 8) (e := 0) (k := 0) (by omega) (by omega) R0_ok
  unfold sX8_rules sX9_rules
  cases hr : rdS (m.1 76) b 8 0 0 R0 with
  | inl q =>
    rw [hr] at c8 ok
    have hq : q ≤ b := ok
    obtain ⟨ν, e1, f1, s1⟩ := c8
    have c9 := p_rd (m := ν) (b := b) (f1.T hT).b9 hb (T := m.1 76) (f1.1 76 (by omega) (by omega) (by omega) (by omega) (by omega) (by omega) (by omega) (by omega))
    rw [hr] at c9
    obtain ⟨ξ, e2, e3, f2, s2⟩ := c9
    refine ⟨-4, ν, ξ, ?_, ?_, inv_fr I0 (f1.tr f2) (by rw [s2, s1]; exact hP.lft)⟩
    · rw [e1, cbE_some, if_neg (fun y : nI q = -1 => absurd (show nI q < 0 by rw [y]; decide) (nI_pos (by omega)))]
    · rw [e2, cbE_some, if_neg nn0]
  | inr z =>
    rw [hr] at c8 ok
    obtain ⟨hz8, o0, o1, o2, o3, o4⟩ := ok
    obtain ⟨ν, e1, x54, x65, f1, s1⟩ := c8
    have e76 : ν.1 76 = m.1 76 := f1.1 76 (by omega) (by omega) (by omega) (by omega) (by omega) (by omega) (by omega) (by omega)
    have e78 : ν.1 78 = m.1 78 := f1.1 78 (by omega) (by omega) (by omega) (by omega) (by omega) (by omega) (by omega) (by omega)
    have e53 : ν.1 53 = m.1 53 := f1.1 53 (by omega) (by omega) (by omega) (by omega) (by omega) (by omega) (by omega) (by omega)
    generalize hM : st1 (up1 ν 53 (va_cpy (ν.1 54) (ν.1 53) 0 0 5)) 6 1 0 = M
    have tk : sX5_takeAsRules ν = some (nI z.1, M) := by
      unfold sX5_takeAsRules sX5_empty
      rw [if_neg (by decide), show (0 : Int32).toNatClampNeg = 0 from rfl, show (5 : Int32).toNatClampNeg = 5 from rfl, bnd_eq, bnd_eq, bnd_eq, cbE_some, hM]
      refine congrArg (fun x => some (x, M)) ?_
      rw [← hM, st1_at, if_neg (by omega)]
      exact x65
    have M15 : M.1 9 15 = nI b := by rw [← hM]; exact (f1.T hT).b9
    have M76 : M.1 76 = m.1 76 := by rw [← hM]; exact e76
    have M53 : M.1 53 = va_cpy (ν.1 54) (ν.1 53) 0 0 5 := by rw [← hM]; rfl
    have M78 : M.1 78 = m.1 78 := by rw [← hM]; exact e78
    have M61 : M.1 6 1 = 0 := by rw [← hM]; rfl
    have M52 : M.1 52 = m.1 52 := by
      rw [← hM]
      exact f1.1 52 (by omega) (by omega) (by omega) (by omega) (by omega) (by omega) (by omega) (by omega)
    have M938 : M.1 9 38 = 0 := by
      rw [← hM]
      show ν.1 9 38 = 0
      rw [s1]
      exact hP.lft
    have hH : IH M c g l := by
      rw [← hM]
      exact (f1.H h).congr ⟨rfl, rfl, rfl, rfl, rfl, rfl, rfl, rfl, rfl, rfl, rfl, rfl, rfl, rfl, rfl, rfl, rfl, rfl, rfl, rfl, rfl, rfl, rfl, rfl, rfl, rfl, rfl, rfl, rfl, rfl, rfl, fun j hj => by simp only [up1_1, st1_1, mkM_1]; (repeat rw [if_neg (by omega)])⟩
    have hQM : IQ M c g l p w v := by
      rw [← hM]
      exact (f1.Q hQ).congr ⟨rfl, rfl, rfl, rfl, rfl, rfl, rfl, rfl, rfl, rfl, rfl, rfl, rfl, rfl, rfl, rfl, rfl, rfl, rfl, rfl, rfl, rfl, rfl, rfl, rfl, rfl, rfl, rfl, rfl, rfl, rfl, rfl, rfl, rfl, rfl⟩
    have hGM : IG M g l d t n := by
      rw [← hM]
      exact (f1.G hG).congr ⟨rfl, rfl, rfl, rfl, rfl, rfl, rfl, rfl, rfl, rfl, rfl, rfl, rfl, rfl, rfl, rfl, rfl, rfl, rfl, rfl, rfl, rfl, rfl, rfl, rfl, rfl, rfl⟩
    have c9 := p_rd (m := M) (b := b) M15 hb (T := m.1 76) M76
    rw [hr] at c9
    obtain ⟨ξ, e2, x77, x23, f2, s2⟩ := c9
    have ξ78 : ξ.1 78 = m.1 78 := (f2.1 78 (by omega) (by omega) (by omega) (by omega) (by omega) (by omega) (by omega) (by omega)).trans M78
    have ξ53 : ξ.1 53 = va_cpy (ν.1 54) (ν.1 53) 0 0 5 := (f2.1 53 (by omega) (by omega) (by omega) (by omega) (by omega) (by omega) (by omega) (by omega)).trans M53
    have ξ52 : ξ.1 52 = m.1 52 := (f2.1 52 (by omega) (by omega) (by omega) (by omega) (by omega) (by omega) (by omega) (by omega)).trans M52
    have ξ76 : ξ.1 76 = m.1 76 := (f2.1 76 (by omega) (by omega) (by omega) (by omega) (by omega) (by omega) (by omega) (by omega)).trans M76
    have ξ61 : ξ.1 6 1 = 0 := (f2.2.2.2.1 1 (by omega)).trans M61
    obtain ⟨B, e3, B1, B2⟩ := l_ru ξ 5 0 5000 (by omega) (by omega) (ξ.1 78) (fun q hq => absurd hq (Nat.not_lt_zero q)) (fun q _ => rfl)
    rw [up_id, x23] at e3
    have BR : ∀ q, q < 5 → B q = z.2 q := fun q hq => (B1 q hq).trans (x77 q hq)
    have rul : ξ.1 53 = B := by
      rw [ξ53]
      funext q
      unfold va_cpy
      rcases Nat.lt_or_ge q 5 with y | y
      · rw [if_pos ⟨by omega, by omega⟩, Nat.sub_zero, Nat.zero_add, x54 q y, BR q y]
      · rw [if_neg (by omega), B2 q y, ξ78, e53, hT.rul]
    refine ⟨nI z.1, M, st1 (up1 ξ 78 B) 9 15 0, ?_, ?_, ?_⟩
    · rw [e1, cbE_some, if_pos rfl, tk, cbE_some]
    · rw [e2, cbE_some, if_pos n10]
      exact e3
    · have q0 : IQ (st1 (up1 ξ 78 B) 9 15 0) c g l p w v := (f2.Q hQM).congr ⟨rfl, rfl, rfl, rfl, rfl, rfl, rfl, rfl, rfl, rfl, rfl, rfl, rfl, rfl, rfl, rfl, rfl, rfl, rfl, rfl, rfl, rfl, rfl, rfl, rfl, rfl, rfl, rfl, rfl, rfl, rfl, rfl, rfl, rfl, rfl⟩
      refine ⟨c, g, l, p, w, v, d, t, n, 0, (f2.H hH).congr ⟨rfl, rfl, rfl, rfl, rfl, rfl, rfl, rfl, rfl, rfl, rfl, rfl, rfl, rfl, rfl, rfl, rfl, rfl, rfl, rfl, rfl, rfl, rfl, rfl, rfl, rfl, rfl, rfl, rfl, rfl, rfl, fun j hj => by simp only [up1_1, st1_1, mkM_1]; (repeat rw [if_neg (by omega)])⟩, ?_, q0.toP (show ξ.1 9 38 = 0 by rw [s2]; exact M938), (f2.G hGM).congr ⟨rfl, rfl, rfl, rfl, rfl, rfl, rfl, rfl, rfl, rfl, rfl, rfl, rfl, rfl, rfl, rfl, rfl, rfl, rfl, rfl, rfl, rfl, rfl, rfl, rfl, rfl, rfl⟩⟩
      refine ⟨rfl, ξ61, by omega, ?_, rul, ?_, ?_, ?_, ?_, ?_⟩
      · show ξ.1 52 = ξ.1 76
        rw [ξ52, ξ76, hT.byt]
      · show B 0 = 0 ∨ B 0 = 1
        rw [BR 0 (by omega)]; exact o0
      · show B 1 = 0 ∨ B 1 = 1
        rw [BR 1 (by omega)]; exact o1
      · show ∃ k, k ≤ 999 ∧ B 2 = nI k
        rw [BR 2 (by omega)]; exact o2
      · show ∃ k, k ≤ 2 ∧ B 3 = nI k
        rw [BR 3 (by omega)]; exact o3
      · show ∃ k, k ≤ 2 ∧ B 4 = nI k
        rw [BR 4 (by omega)]; exact o4
