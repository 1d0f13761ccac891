/-! what hangs on a day: the class -/
theorem a4_s (f : Nat) : sX3_turnsOn_l4 (f + 1) = sX3_turnsOn_b4 (sX3_turnsOn_l4 f) := rfl
theorem a5_s (f : Nat) : sX3_turnsSinceAhead_l4 (f + 1) = sX3_turnsSinceAhead_b4 (sX3_turnsSinceAhead_l4 f) := rfl
theorem a2_s (f : Nat) : sX3_dayOfMostTurns_l2 (f + 1) = sX3_dayOfMostTurns_b2 (sX3_dayOfMostTurns_l2 f) := rfl
theorem a37_s (f : Nat) : sX3_dayOfMostTurns_l37 (f + 1) = sX3_dayOfMostTurns_b37 (sX3_dayOfMostTurns_l37 f) := rfl
section HC
variable {m : pMem} {c g l p w v b : Nat}
theorem l_on4 (h : IH m c g l) (hT : IT m b) (hP : IQ m c g l p w v) {q : Nat} (h1 : 1 ≤ q) (hq : q ≤ 999) : ∀ (j n f : Nat), n + j = p → j < f → ∀ μ, fr m μ → μ.1 9 = m.1 9 → ∃ ν, sX3_turnsOn_l4 f (nI q) (tnS m c l w v q (q - 1) n) (nI n) μ = some (tS m c l w v p q, ν) ∧ fr m ν ∧ ν.1 9 = m.1 9 := by
  have hp := hP.ple
  intro j
  induction j with
  | zero =>
    intro n f hij hf μ F e0
    obtain ⟨f, rfl⟩ := fuel_s (Nat.lt_of_le_of_lt (Nat.zero_le _) hf)
    have : n = p := by omega
    subst this
    refine ⟨μ, ?_, F, e0⟩
    rw [a4_s]
    unfold sX3_turnsOn_b4
    rw [(F.Q hP).p4, if_pos (nI_le (Nat.le_refl _) (by omega))]
    rfl
  | succ j ih =>
    intro n f hij hf μ F e0
    obtain ⟨f, rfl⟩ := fuel_s (Nat.lt_of_le_of_lt (Nat.zero_le _) hf)
    have hn : n < p := by omega
    obtain ⟨μ1, e1, f1, s1⟩ := k_on h hT hP F hn hq 0
    obtain ⟨μ2, e2, f2, s2⟩ := k_on h hT hP f1 hn (show q - 1 ≤ 999 by omega) 0
    obtain ⟨ν, y1, y2, y3⟩ := ih (n + 1) f (by omega) (by omega) μ2 f2 (by rw [s2 9 (by omega), s1 9 (by omega)]; exact e0)
    refine ⟨ν, ?_, y2, y3⟩
    rw [tnS_s] at y1
    rw [a4_s]
    unfold sX3_turnsOn_b4
    rw [(F.Q hP).p4, if_neg (nI_ge (by omega) (by omega)), e1, cbE_some, nI_m1 (by omega), e2, cbE_some, p_bc, cbR_some, bnd_eq, nI_1]
    exact y1
theorem l_sa4 (h : IH m c g l) (hT : IT m b) (hP : IQ m c g l p w v) {q e : Nat} (hq : q ≤ 999) : ∀ (j n f : Nat), n + j = p → j < f → ∀ μ, fr m μ → μ.1 9 = m.1 9 → (∀ x, x < p → μ.1 48 x = if x < n then bS m c l w v x (nI q) 0 else bS m c l w v x (nI e) 0) → ∃ ν, sX3_turnsSinceAhead_l4 f (nI q) (tnS m c l w v q e n) (nI n) μ = some (tnS m c l w v q e p, ν) ∧ fr m ν ∧ ν.1 9 = m.1 9 ∧ ∀ x, x < p → ν.1 48 x = bS m c l w v x (nI q) 0 := by
  have hp := hP.ple
  intro j
  induction j with
  | zero =>
    intro n f hij hf μ F e0 hx
    obtain ⟨f, rfl⟩ := fuel_s (Nat.lt_of_le_of_lt (Nat.zero_le _) hf)
    have : n = p := by omega
    subst this
    refine ⟨μ, ?_, F, e0, fun x z => by rw [hx x z, if_pos z]⟩
    rw [a5_s]
    unfold sX3_turnsSinceAhead_b4
    rw [(F.Q hP).p4, if_pos (nI_le (Nat.le_refl _) (by omega))]
  | succ j ih =>
    intro n f hij hf μ F e0 hx
    obtain ⟨f, rfl⟩ := fuel_s (Nat.lt_of_le_of_lt (Nat.zero_le _) hf)
    have hn : n < p := by omega
    obtain ⟨μ1, e1, f1, s1⟩ := k_on h hT hP F hn hq 0
    obtain ⟨ν, y1, y2, y3, y4⟩ := ih (n + 1) f (by omega) (by omega) (st1 μ1 48 n (bS m c l w v n (nI q) 0)) (f1.tr (fr.st μ1 n _ (by omega))) (by rw [st1_ne _ _ _ _ (by omega), s1 9 (by omega)]; exact e0) (fun x hx2 => by
      rw [st1_at]
      by_cases z : x = n
      · rw [if_pos z, if_pos (by omega), z]
      · rw [if_neg z, s1 48 (by omega), hx x hx2]
        by_cases z2 : x < n
        · rw [if_pos z2, if_pos (by omega)]
        · rw [if_neg z2, if_neg (by omega)])
    refine ⟨ν, ?_, y2, y3, y4⟩
    rw [tnS_s] at y1
    rw [a5_s]
    unfold sX3_turnsSinceAhead_b4
    rw [(F.Q hP).p4, if_neg (nI_ge (by omega) (by omega)), e1, cbE_some]
    simp only [if_neg (noob (i := n) (n := 12) (by omega) (by omega)), nI_clamp (show n < 2 ^ 31 by omega)]
    rw [s1 48 (by omega), hx n hn, if_neg (Nat.lt_irrefl n), p_bc, cbR_some, bnd_eq, bnd_eq, nI_1]
    exact y1
theorem l_dm2 (h : IH m c g l) (hT : IT m b) (hP : IQ m c g l p w v) (d : Int32) : ∀ (j n f : Nat), n + j = p → j < f → ∀ μ, fr m μ → μ.1 9 = m.1 9 → (∀ x, x < n → μ.1 48 x = bS m c l w v x (nI 0) 0) → ∃ ν, sX3_dayOfMostTurns_l2 f d (nI n) μ = sX3_dayOfMostTurns_l37 5000 d 1 0 1 ν ∧ fr m ν ∧ ν.1 9 = m.1 9 ∧ ∀ x, x < p → ν.1 48 x = bS m c l w v x (nI 0) 0 := by
  have hp := hP.ple
  intro j
  induction j with
  | zero =>
    intro n f hij hf μ F e0 hx
    obtain ⟨f, rfl⟩ := fuel_s (Nat.lt_of_le_of_lt (Nat.zero_le _) hf)
    have : n = p := by omega
    subst this
    refine ⟨μ, ?_, F, e0, hx⟩
    rw [a2_s]
    unfold sX3_dayOfMostTurns_b2
    rw [(F.Q hP).p4, if_pos (nI_le (Nat.le_refl _) (by omega))]
  | succ j ih =>
    intro n f hij hf μ F e0 hx
    obtain ⟨f, rfl⟩ := fuel_s (Nat.lt_of_le_of_lt (Nat.zero_le _) hf)
    have hn : n < p := by omega
    obtain ⟨μ1, e1, f1, s1⟩ := k_on h hT hP F hn (show 0 ≤ 999 by omega) 0
    obtain ⟨ν, y1, y2, y3, y4⟩ := ih (n + 1) f (by omega) (by omega) (st1 μ1 48 n (bS m c l w v n (nI 0) 0)) (f1.tr (fr.st μ1 n _ (by omega))) (by rw [st1_ne _ _ _ _ (by omega), s1 9 (by omega)]; exact e0) (fun x hx2 => by
      rw [st1_at]
      by_cases z : x = n
      · rw [if_pos z, z]
      · rw [if_neg z, s1 48 (by omega)]
        exact hx x (by omega))
    refine ⟨ν, ?_, y2, y3, y4⟩
    rw [a2_s]
    unfold sX3_dayOfMostTurns_b2
    rw [(F.Q hP).p4, if_neg (nI_ge (by omega) (by omega)), show (sX3_boundOn (nI n) 0 0 μ) = some (bS m c l w v n (nI 0) 0, μ1) from e1, cbE_some, if_neg (noob (by omega) (by omega)), nI_clamp (by omega), bnd_eq, nI_1]
    exact y1
theorem tS_um (h : IH m c g l) (hP : IQ m c g l p w v) {q : Nat} (h1 : 1 ≤ q) (hq : q ≤ 999) (hm : ¬ mkd m q) : tS m c l w v p q = 0 := by
  obtain ⟨k, rfl⟩ : ∃ k, q = k + 1 := ⟨q - 1, by omega⟩
  exact tnS_0 (fun i hi => by
    rw [Nat.add_sub_cancel]
    exact bS_um hP h hi hq hm 0)
theorem l_dm37 (h : IH m c g l) (hT : IT m b) (hP : IQ m c g l p w v) {d : Nat} (hd : d ≤ 999) : ∀ (j q f : Nat), q + j = d + 1 → 1 ≤ q → j < f → ∀ (x o : Int32) μ, ¬ o < 0 → fr m μ → μ.1 9 = m.1 9 → (∀ x, x < p → μ.1 48 x = bS m c l w v x (nI (q - 1)) 0) → ∃ ν, sX3_dayOfMostTurns_l37 f (nI d) x o (nI q) μ = some (hF (tS m c l w v p) j q x o, ν) ∧ fr m ν ∧ ν.1 9 = m.1 9 := by
  have hp := hP.ple
  intro j
  induction j with
  | zero =>
    intro q f hij h1 hf x o μ ho F e0 hx
    obtain ⟨f, rfl⟩ := fuel_s (Nat.lt_of_le_of_lt (Nat.zero_le _) hf)
    refine ⟨μ, ?_, F, e0⟩
    rw [a37_s]
    unfold sX3_dayOfMostTurns_b37
    rw [if_pos (show nI d < nI q from nI_lt (by omega) (by omega))]
    rfl
  | succ j ih =>
    intro q f hij h1 hf x o μ ho F e0 hx
    obtain ⟨f, rfl⟩ := fuel_s (Nat.lt_of_le_of_lt (Nat.zero_le _) hf)
    have dm : Decidable (mkd μ q) := by unfold mkd; infer_instance
    have em : mkd μ q ↔ mkd m q := by unfold mkd; rw [F.2.2.2.2.2]
    rw [a37_s]
    unfold sX3_dayOfMostTurns_b37 sX3_dayOfMostTurns_b77
    rw [if_neg (show ¬ nI d < nI q from nI_nlt (by omega) (by omega)), p_isMarked (show q ≤ 999 by omega), cbR_some, hF_s, nI_1]
    by_cases a : mkd m q
    · obtain ⟨ν, y1, y2, y3, y4⟩ := l_sa4 h hT hP (q := q) (e := q - 1) (by omega) p 0 5000 (by omega) (by omega) μ F e0 (fun x z => by rw [if_neg (Nat.not_lt_zero x)]; exact hx x z)
      have y1' : sX3_turnsSinceAhead (nI q) μ = some (tS m c l w v p q, ν) := y1
      rw [bI_t (em.mpr a), if_pos n10, y1', cbE_some]
      by_cases z : tS m c l w v p q ≤ o
      · rw [if_pos z, if_pos z]
        exact ih (q + 1) f (by omega) (by omega) (by omega) x o ν ho y2 y3 (by rw [Nat.add_sub_cancel]; exact y4)
      · rw [if_neg z, if_neg z]
        exact ih (q + 1) f (by omega) (by omega) (by omega) (nI q) _ ν (fun y => z (Int32.le_trans (Int32.le_of_lt y) (Int32.not_lt.mp ho))) y2 y3 (by rw [Nat.add_sub_cancel]; exact y4)
    · rw [bI_f (fun y => a (em.mp y)), if_neg nn0, if_pos (by rw [tS_um h hP h1 (by omega) a]; exact Int32.not_lt.mp ho)]
      exact ih (q + 1) f (by omega) (by omega) (by omega) x o μ ho F e0 (fun y hy => by
        rw [Nat.add_sub_cancel, hx y hy]
        obtain ⟨k, rfl⟩ : ∃ k, q = k + 1 := ⟨q - 1, by omega⟩
        rw [Nat.add_sub_cancel]
        exact (bS_um hP h hy (by omega) a 0).symm)
end HC
theorem q_hangs {m : pMem} (I : Inv m) (a x : Int32) : ∃ r m1 m2, sX8_hangs a x m = some (r, m1) ∧ sX9_hangs a x m1 = some (r, m2) ∧ Inv m2 := by
  have I0 := I
  obtain ⟨c, g, l, p, w, v, d, t, n, b, h, hT, hP, hG⟩ := I
  have hp := hP.ple
  have hQ := hP.toQ
  unfold sX8_hangs sX9_hangs sX8_hangs_b51 sX8_hangs_b21 sX9_hangs_b20 sX9_hangs_b40
  by_cases ha : inR a 1 999
  · obtain ⟨q, hq, rfl⟩ := inR_nat (n := 999) (by decide) (show inR a 0 999 from ⟨fun z => ha.1 (Int32.lt_trans z (by decide)), ha.2⟩)
    have h1 : 1 ≤ q := by
      rcases Nat.eq_zero_or_pos q with z | z
      · subst z; exact absurd (show nI 0 < 1 by decide) ha.1
      · exact z
    by_cases hx : inR x 0 1
    · obtain ⟨k, hk, rfl⟩ := inR_nat (n := 1) (by decide) hx
      rcases (show k = 0 ∨ k = 1 by omega) with rfl | rfl
      · obtain ⟨μ, e1, f1, s1⟩ := l_on4 h hT hQ h1 hq p 0 5000 (by omega) (by omega) m (fr.rf m) rfl
        have l1 : μ.1 9 38 = 0 := by rw [s1]; exact hP.lft
        obtain ⟨ν, y1, y2, y3, y4⟩ := l_fb h hQ (q := q - 1) (by omega) p 0 5000 (by omega) (by omega) μ f1 l1 (fun x z => absurd z (Nat.not_lt_zero x))
        obtain ⟨ξ, z1, z2, z3⟩ := l_h54 h hQ (d := q) hq (nI 0) 1 q 5000 (by omega) h1 (by omega) 0 (-1) 0 ν y2 y3 y4
        have e1' : sX3_turnsOn (nI q) m = some (tS m c l w v p q, μ) := by unfold sX3_turnsOn; exact e1
        have y1' : sX9_findBound (nI (q - 1)) μ = some (0, ν) := y1
        rw [if_neg (not_not_intro (show nI 0 = 0 from rfl)), lmF_s] at z1
        refine ⟨tS m c l w v p q, μ, ξ, ?_, ?_, inv_fr I0 z2 z3⟩
        · rw [if_neg ha.1, if_neg ha.2, if_neg hx.1, if_pos (show nI 0 ≤ 1 by decide), if_neg (not_not_intro (show nI 0 = 0 from rfl)), e1', cbE_some]
        · rw [p_in, cbR_some, bI_t ha, if_neg n10, p_in, cbR_some, bI_t hx, if_pos n10, bnd_eq, if_neg (not_not_intro (show nI 0 = 0 from rfl)), nI_m1 (by omega), y1', cbE_some]
          exact z1
      · obtain ⟨μ0, e0, f0, s0, t0⟩ := l_dm2 h hT hQ (nI q) p 0 5000 (by omega) (by omega) m (fr.rf m) rfl (fun x z => absurd z (Nat.not_lt_zero x))
        obtain ⟨μ, e1, f1, s1⟩ := l_dm37 h hT hQ hq q 1 5000 (by omega) (by omega) (by omega) 1 0 μ0 (by decide) f0 s0 t0
        have l1 : μ.1 9 38 = 0 := by rw [s1]; exact hP.lft
        obtain ⟨ν, y1, y2, y3, y4⟩ := l_fb h hQ (q := 0) (by omega) p 0 5000 (by omega) (by omega) μ f1 l1 (fun x z => absurd z (Nat.not_lt_zero x))
        obtain ⟨ξ, z1, z2, z3⟩ := l_h54 h hQ (d := q) hq (nI 1) q 1 5000 (by omega) (by omega) (by omega) 0 (-1) 0 ν y2 y3 y4
        have e1' : sX3_dayOfMostTurns (nI q) m = some (hF (tS m c l w v p) q 1 1 0, μ) := e0.trans e1
        have y1' : sX9_findBound (nI 0) μ = some (0, ν) := y1
        have same : hF (tS m c l w v p) q 1 0 (-1) = hF (tS m c l w v p) q 1 1 0 := by
          obtain ⟨q, rfl⟩ : ∃ k, q = k + 1 := ⟨q - 1, by omega⟩
          obtain ⟨k, hk, ek⟩ := tnS_r h hQ 1 (1 - 1) p (Nat.le_refl _)
          have ek' : tS m c l w v p 1 = nI k := ek
          have n1 : ¬ tS m c l w v p 1 ≤ -1 := fun z => by
            rw [ek'] at z
            exact nI_pos (show k < 2 ^ 31 by omega) (Int32.lt_of_le_of_lt z (by decide))
          rw [hF_s, hF_s, if_neg n1]
          by_cases z : tS m c l w v p 1 ≤ 0
          · have : tS m c l w v p 1 = 0 := Int32.le_antisymm z (by rw [ek']; exact nI_pos' (by omega))
            rw [if_pos z, this]
            rfl
          · rw [if_neg z]
        rw [if_pos (show ¬ nI 1 = 0 by decide), same] at z1
        refine ⟨hF (tS m c l w v p) q 1 1 0, μ, ξ, ?_, ?_, inv_fr I0 z2 z3⟩
        · rw [if_neg ha.1, if_neg ha.2, if_neg hx.1, if_pos (show nI 1 ≤ 1 by decide), if_pos (show ¬ nI 1 = 0 by decide), e1', cbE_some]
        · rw [p_in, cbR_some, bI_t ha, if_neg n10, p_in, cbR_some, bI_t hx, if_pos n10, bnd_eq, if_pos (show ¬ nI 1 = 0 by decide), show (1 : Int32) - 1 = nI 0 from rfl, y1', cbE_some]
          exact z1
    · refine ⟨-3, m, m, ?_, ?_, I0⟩
      · rw [if_neg ha.1, if_neg ha.2]
        by_cases z : x < 0
        · rw [if_pos z]
        · rw [if_neg z, if_neg (fun y => hx ⟨z, Int32.not_lt.mpr y⟩)]
      · rw [p_in, cbR_some, bI_t ha, if_neg n10, p_in, cbR_some, bI_f hx, if_neg nn0]
  · refine ⟨-3, m, m, ?_, ?_, I0⟩
    · by_cases z : a < 1
      · rw [if_pos z]
      · rw [if_neg z, if_pos (by
          by_cases y : (999 : Int32) < a
          · exact y
          · exact absurd ⟨z, y⟩ ha)]
    · rw [p_in, cbR_some, bI_f ha, if_pos rfl]
