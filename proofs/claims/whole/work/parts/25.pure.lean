/-! the calls that only look at grounds and changes -/
theorem q_lands {m : pMem} (I : Inv m) (a : Int32) : ∃ r, sX8_lands a m = some r ∧ sX9_lands a m = some r := by
  obtain ⟨c, g, l, p, w, v, d, t, n, b, h, -, -, -⟩ := I
  unfold sX8_lands sX9_lands sX9_lands_b22
  rw [p_day8, p_day9, cbR_some, cbR_some]
  by_cases hd : inR a 0 999
  · have hc := h.cle' a
    have hc2 := h.cle
    rw [bI_t hd, if_pos (by decide), if_neg (by decide), h.changesBy, h.doneBy, cbR_some, cbR_some, if_neg (noob (by omega) (by omega)), if_neg (noob (by omega) (by omega)), h.thr]
    exact ⟨_, rfl, rfl⟩
  · rw [bI_f hd, if_neg (by decide), if_pos rfl]
    exact ⟨_, rfl, rfl⟩
theorem q_has {m : pMem} (I : Inv m) (a x : Int32) : ∃ r, sX8_has a x m = some r ∧ sX9_has a x m = some r := by
  obtain ⟨c, g, l, p, w, v, d, t, n, b, h, -, -, -⟩ := I
  have hl := h.lle
  unfold sX8_has sX9_has sX9_has_b33
  rw [p_land2 a m h.l3, p_land9 (by omega) a m h.l9, cbR_some, cbR_some]
  by_cases ha : inN a l
  · rw [bI_t ha, if_pos (by decide), if_pos (by decide), p_day8, p_day9, cbR_some, cbR_some]
    obtain ⟨q, hq, rfl⟩ := (inN_iff (by omega)).mp ha
    by_cases hd : inR x 0 999
    · have hc := h.cle' x
      have hc2 := h.cle
      rw [bI_t hd, if_pos (by decide), if_neg (by decide), h.changesBy, h.doneBy, cbR_some, cbR_some, if_neg (noob (by omega) (by omega)), if_neg (noob (by omega) (by omega)), h.groundsOf hc, cbR_some, nI_clamp (by omega), nI_clamp (by omega), h.rows _ hc q (by omega)]
      exact ⟨_, rfl, rfl⟩
    · rw [bI_f hd, if_neg (by decide), if_pos rfl]
      exact ⟨_, rfl, rfl⟩
  · rw [bI_f ha, if_neg (by decide), if_neg (by decide)]
    exact ⟨_, rfl, rfl⟩
theorem q_whose {m : pMem} (I : Inv m) (a x : Int32) : ∃ r, sX8_whose a x m = some r ∧ sX9_whose a x m = some r := by
  obtain ⟨c, g, l, p, w, v, d, t, n, b, h, -, -, -⟩ := I
  have hg := h.gle
  unfold sX8_whose sX9_whose sX9_whose_b38
  rw [p_ground2 a m h.g3, p_ground9 (by omega) a m h.g9, cbR_some, cbR_some]
  by_cases ha : inN a g
  · rw [bI_t ha, if_pos (by decide), if_pos (by decide), p_day8, p_day9, cbR_some, cbR_some]
    obtain ⟨q, hq, rfl⟩ := (inN_iff (by omega)).mp ha
    by_cases hd : inR x 0 999
    · have hc := h.cle' x
      have hc2 := h.cle
      obtain ⟨o, -, e1, -, e2⟩ := h.ownerOf hc hq
      rw [bI_t hd, if_pos (by decide), if_neg (by decide), h.changesBy, h.doneBy, cbR_some, cbR_some, show (8 : Int32) * nI (IHc m c x) + nI q = nI (8 * IHc m c x + q) from by rw [show (8 : Int32) = nI 8 from rfl, nI_mul, nI_add], if_neg (noob (by omega) (by omega)), nI_clamp (by omega), e2, cbR_some, e1]
      exact ⟨_, rfl, rfl⟩
    · rw [bI_f hd, if_neg (by decide), if_pos rfl]
      exact ⟨_, rfl, rfl⟩
  · rw [bI_f ha, if_neg (by decide), if_neg (by decide)]
    exact ⟨_, rfl, rfl⟩
theorem q_from {m : pMem} (I : Inv m) (a x : Int32) : ∃ r, sX8_from a x m = some r ∧ sX9_from a x m = some r := by
  obtain ⟨c, g, l, p, w, v, d, t, n, b, h, -, -, -⟩ := I
  have hl := h.lle
  unfold sX8_from sX9_from sX9_from_b44
  rw [p_land2 a m h.l3, p_land9 (by omega) a m h.l9, cbR_some, cbR_some]
  by_cases ha : inN a l
  · obtain ⟨q, hq, rfl⟩ := (inN_iff (by omega)).mp ha
    have ob := noob (i := q) (n := 10) (by omega) (by omega)
    rw [bI_t ha, if_pos n10, if_pos n10, p_in, cbR_some, h.par, h.cam]
    by_cases h0 : x = 0
    · subst h0
      rw [bI_t (by decide : inR 0 0 1), if_neg nn0, if_pos n10, if_neg nn0, if_neg ob]
      exact ⟨_, rfl, rfl⟩
    · by_cases h1 : x = 1
      · subst h1
        rw [bI_t (by decide : inR 1 0 1), if_neg (not_not_intro rfl), if_pos n10, if_pos n10, if_neg ob]
        exact ⟨_, rfl, rfl⟩
      · have hx : ¬ inR x 0 1 := by
          intro q
          obtain ⟨k, hk, rfl⟩ := inR_nat (n := 1) (by decide) q
          rcases (show k = 0 ∨ k = 1 by omega) with rfl | rfl
          · exact h0 rfl
          · exact h1 rfl
        rw [if_pos h0, if_pos h1, bI_f hx, if_neg nn0]
        exact ⟨_, rfl, rfl⟩
  · rw [bI_f ha, if_neg (by decide), if_neg (by decide)]
    exact ⟨_, rfl, rfl⟩
theorem q_count {m : pMem} (I : Inv m) (a : Int32) : ∃ r, sX8_count a m = some r ∧ sX9_count a m = some r := by
  obtain ⟨c, g, l, p, w, v, d, t, n, b, h, hT, hP, hG⟩ := I
  have e : sX8_count a m = sX9_count a m := by
    unfold sX8_count sX9_count
    rw [h.g9, h.g3, h.l9, h.l3, h.c9, h.c3, hT.b9, hT.b6, hP.p9, hP.p4, hP.w9, hP.w8, hP.v9, hP.v7, hG.d9, hG.d2, hG.t9, hG.t2, hG.n9, hG.n5]
  have e2 : ∃ r, sX9_count a m = some r := by
    unfold sX9_count
    iterate 10 (split; · exact ⟨_, rfl⟩)
    exact ⟨_, rfl⟩
  obtain ⟨r, hr⟩ := e2
  exact ⟨r, e.trans hr, hr⟩
theorem q_rule {m : pMem} (I : Inv m) (a : Int32) : ∃ r, sX8_rule a m = some r ∧ sX9_rule a m = some r := by
  obtain ⟨c, g, l, p, w, v, d, t, n, b, h, hT, hP, hG⟩ := I
  unfold sX8_rule sX8_rule_b9 sX9_rule sX9_rule_b20
  rw [p_in, cbR_some, hT.rul]
  by_cases ha : inR a 0 4
  · obtain ⟨q, hq, rfl⟩ := inR_nat (n := 4) (by decide) ha
    have ob := noob (i := q) (n := 5) (by omega) (by omega)
    rw [bI_t ha, if_neg ha.1, if_neg n10, if_pos (show nI q < (5 : Int32) from nI_lt (b := 5) (by omega) (by decide)), if_neg ob]
    exact ⟨_, rfl, rfl⟩
  · rw [bI_f ha, if_pos rfl]
    by_cases h0 : a < 0
    · rw [if_pos h0]; exact ⟨_, rfl, rfl⟩
    · have h4 : (4 : Int32) < a := by
        by_cases q : (4 : Int32) < a
        · exact q
        · exact absurd ⟨h0, q⟩ ha
      have h5 : ¬ a < (5 : Int32) := by
        intro q
        rw [Int32.lt_iff_toInt_lt] at h4 q
        have e4 : (4 : Int32).toInt = 4 := rfl
        have e5 : (5 : Int32).toInt = 5 := rfl
        omega
      rw [if_neg h0, if_neg h5]; exact ⟨_, rfl, rfl⟩
