/-! debts -/
def dRef (th ow : Int32) (l g d : Nat) (a s gr u : Int32) : Int32 :=
  if ¬ inN a l then -2 else if ¬ gr = -1 ∧ ¬ inN gr g then -2 else if ¬ (inR s 1 9999 ∧ inR u 0 999) then -3
  else if ¬ isTh th a l then -4 else if ¬ gr = -1 ∧ ¬ ow = a then -4 else if d < 8 then 0 else -5
def addD8 (m : pMem) (d : Nat) (a s gr u : Int32) : pMem := st1 (st1 (st1 (st1 (st1 (st1 m 11 d a) 12 d s) 13 d gr) 14 d u) 2 6 (if m.1 2 6 < u then u else m.1 2 6)) 2 5 (nI (d + 1))
def addD9 (m : pMem) (d : Nat) (a s gr u : Int32) : pMem := st1 (st1 (st1 (st1 (st1 m 95 d a) 96 d s) 97 d gr) 98 d u) 9 46 (nI (d + 1))
theorem s8_debt {m : pMem} {c g l d : Nat} (h : IH m c g l) (hp : m.1 2 5 = nI d) (hle : d ≤ 8) (a s gr u : Int32) : sX8_debt a s gr u m = some (if dRef (m.1 75 (IHc m c u)) (m.1 74 (8 * IHc m c u + nv gr)) l g d a s gr u = 0 then (nI d, addD8 m d a s gr u) else (dRef (m.1 75 (IHc m c u)) (m.1 74 (8 * IHc m c u + nv gr)) l g d a s gr u, m)) := by
  have hgl := h.gle
  have hll := h.lle
  generalize hR : dRef (m.1 75 (IHc m c u)) (m.1 74 (8 * IHc m c u + nv gr)) l g d a s gr u = R
  unfold dRef at hR
  unfold sX8_debt
  rw [p_land2 a m h.l3, cbR_some]
  by_cases ha : inN a l
  · rw [bI_t ha, if_pos n10]
    rw [if_neg (not_not_intro ha)] at hR
    have core : ¬ (¬ gr = -1 ∧ ¬ inN gr g) → sX8_debt_b33 a s gr u m = some (if R = 0 then (nI d, addD8 m d a s gr u) else (R, m)) := by
      intro hkg
      rw [if_neg hkg] at hR
      unfold sX8_debt_b33 sX8_debt_b53
      by_cases hk : inR s 1 9999
      · rw [if_neg hk.1, if_neg hk.2, p_day8, cbR_some]
        by_cases hu : inR u 0 999
        · rw [bI_t hu, if_pos n10, h.changesBy, cbR_some, h.isThere2 (h.cle' u), cbR_some]
          rw [if_neg (not_not_intro ⟨hk, hu⟩)] at hR
          by_cases hth : isTh (m.1 75 (IHc m c u)) a l
          · rw [bI_t hth, if_pos n10]
            rw [if_neg (not_not_intro hth)] at hR
            have fin : ¬ (¬ gr = -1 ∧ ¬ m.1 74 (8 * IHc m c u + nv gr) = a) → sX8_debt_b105 a s gr u m = some (if R = 0 then (nI d, addD8 m d a s gr u) else (R, m)) := by
              intro ho
              rw [if_neg ho] at hR
              unfold sX8_debt_b105
              rw [hp]
              by_cases h8 : d < 8
              · rw [if_pos ((ne8 hle).1.mpr h8)]
                rw [if_pos h8] at hR
                subst hR
                rw [if_pos rfl]
                unfold sX1_addDebt
                have hob := noob (i := d) (n := 8) (by omega) h8
                have hcl := nI_clamp (show d < 2 ^ 31 by omega)
                simp only [bnd_eq, hp, if_neg hob, hcl]
                have e1 : (st1 (st1 (st1 (st1 (st1 m 11 d a) 12 d s) 13 d gr) 14 d u) 2 6 (if (st1 (st1 (st1 (st1 m 11 d a) 12 d s) 13 d gr) 14 d u).1 2 6 < u then u else (st1 (st1 (st1 (st1 m 11 d a) 12 d s) 13 d gr) 14 d u).1 2 6)).1 2 5 = nI d := hp
                rw [e1, nI_1, cbE_some]
                rfl
              · rw [if_neg (fun z => h8 ((ne8 hle).1.mp z))]
                rw [if_neg h8] at hR
                subst hR
                rw [if_neg m5n0]
            by_cases hk0 : gr = -1
            · rw [if_pos hk0]
              exact fin (fun z => z.1 hk0)
            · rw [if_neg hk0]
              have hgr : inN gr g := by
                by_cases z : inN gr g
                · exact z
                · exact absurd ⟨hk0, z⟩ hkg
              obtain ⟨i, hi, rfl⟩ := (inN_iff (by omega)).mp hgr
              obtain ⟨o, ho1, ho2, -, ho3⟩ := h.ownerOf (h.cle' u) hi
              rw [ho3, cbR_some]
              rw [nv_nI (by omega), ho2] at hR fin
              by_cases hoa : nI o = a
              · rw [if_pos hoa]
                exact fin (fun z => z.2 hoa)
              · rw [if_neg hoa]
                rw [if_pos ⟨hk0, hoa⟩] at hR
                subst hR
                rw [if_neg m4n0]
          · rw [bI_f hth, if_neg nn0]
            rw [if_pos hth] at hR
            subst hR
            rw [if_neg m4n0]
        · rw [bI_f hu, if_neg nn0]
          rw [if_pos (fun z => hu z.2)] at hR
          subst hR
          rw [if_neg m3n0]
      · rw [if_pos (fun z => hk z.1)] at hR
        subst hR
        rw [if_neg m3n0]
        by_cases h0 : s < 1
        · rw [if_pos h0]
        · rw [if_neg h0, if_pos (by
            by_cases z : (9999 : Int32) < s
            · exact z
            · exact absurd ⟨h0, z⟩ hk)]
    by_cases hk0 : gr = -1
    · rw [if_pos hk0]
      exact core (fun z => z.1 hk0)
    · rw [if_neg hk0, p_ground2 gr m h.g3, cbR_some]
      by_cases hgr : inN gr g
      · rw [bI_t hgr, if_pos n10]
        exact core (fun z => z.2 hgr)
      · rw [bI_f hgr, if_neg nn0]
        rw [if_pos ⟨hk0, hgr⟩] at hR
        subst hR
        rw [if_neg m2n0]
  · rw [bI_f ha, if_neg nn0]
    rw [if_pos ha] at hR
    subst hR
    rw [if_neg m2n0]
theorem s9_debt {m : pMem} {c g l d : Nat} (h : IH m c g l) (hp : m.1 9 46 = nI d) (hle : d ≤ 8) (a s gr u : Int32) : sX9_debt a s gr u m = some (if dRef (m.1 75 (IHc m c u)) (m.1 74 (8 * IHc m c u + nv gr)) l g d a s gr u = 0 then (nI d, addD9 m d a s gr u) else (dRef (m.1 75 (IHc m c u)) (m.1 74 (8 * IHc m c u + nv gr)) l g d a s gr u, m)) := by
  have hgl := h.gle
  have hll := h.lle
  have hcl := h.cle
  generalize hR : dRef (m.1 75 (IHc m c u)) (m.1 74 (8 * IHc m c u + nv gr)) l g d a s gr u = R
  unfold dRef at hR
  unfold sX9_debt sX9_debt_b21
  rw [p_land9 (by omega) a m h.l9, cbR_some]
  by_cases ha : inN a l
  · rw [bI_t ha, if_neg n10]
    rw [if_neg (not_not_intro ha)] at hR
    have core : ¬ (¬ gr = -1 ∧ ¬ inN gr g) → sX9_debt_b24 a s gr u m = some (if R = 0 then (nI d, addD9 m d a s gr u) else (R, m)) := by
      intro hkg
      rw [if_neg hkg] at hR
      unfold sX9_debt_b24 sX9_debt_b43 sX9_debt_b85
      rw [p_in, cbR_some]
      by_cases hk : inR s 1 9999
      · rw [bI_t hk, if_neg n10, p_day9, cbR_some]
        by_cases hu : inR u 0 999
        · rw [bI_t hu, if_pos n10, h.doneBy, cbR_some, h.isThere9 (h.cle' u), cbR_some]
          rw [if_neg (not_not_intro ⟨hk, hu⟩)] at hR
          have hcu := h.cle' u
          by_cases hth : isTh (m.1 75 (IHc m c u)) a l
          · rw [bI_t hth, if_neg n10]
            rw [if_neg (not_not_intro hth)] at hR
            have fin : ¬ (¬ gr = -1 ∧ ¬ m.1 74 (8 * IHc m c u + nv gr) = a) → sX9_debt_b88 a s gr u m = some (if R = 0 then (nI d, addD9 m d a s gr u) else (R, m)) := by
              intro ho
              rw [if_neg ho] at hR
              unfold sX9_debt_b88
              rw [hp]
              by_cases h8 : d < 8
              · rw [if_pos (fun z => absurd ((ne8 hle).2.mp z) (by omega))]
                rw [if_pos h8] at hR
                subst hR
                rw [if_pos rfl]
                have hob := noob (i := d) (n := 8) (by omega) h8
                have hcl := nI_clamp (show d < 2 ^ 31 by omega)
                have e1 : (st1 m 95 d a).1 9 46 = nI d := hp
                have e2 : (st1 (st1 m 95 d a) 96 d s).1 9 46 = nI d := hp
                have e3 : (st1 (st1 (st1 m 95 d a) 96 d s) 97 d gr).1 9 46 = nI d := hp
                have e4 : (st1 (st1 (st1 (st1 m 95 d a) 96 d s) 97 d gr) 98 d u).1 9 46 = nI d := hp
                simp only [bnd_eq, if_neg hob, hcl, e1, e2, e3, e4, nI_1]
                unfold addD9
                rw [show (st1 (st1 (st1 (st1 (st1 m 95 d a) 96 d s) 97 d gr) 98 d u) 9 46 (nI (d + 1))).1 9 46 = nI (d + 1) from rfl, nI_pred]
              · rw [if_neg (not_not_intro ((ne8 hle).2.mpr (by omega)))]
                rw [if_neg h8] at hR
                subst hR
                rw [if_neg m5n0]
            by_cases hk0 : gr = -1
            · rw [if_pos hk0]
              exact fin (fun z => z.1 hk0)
            · rw [if_neg hk0]
              have hgr : inN gr g := by
                by_cases z : inN gr g
                · exact z
                · exact absurd ⟨hk0, z⟩ hkg
              obtain ⟨i, hi, rfl⟩ := (inN_iff (by omega)).mp hgr
              rw [ix8, if_neg (noob (by omega) (by omega)), nI_clamp (by omega)]
              rw [nv_nI (by omega)] at hR fin
              by_cases hoa : m.1 74 (8 * IHc m c u + i) = a
              · rw [if_pos hoa]
                exact fin (fun z => z.2 hoa)
              · rw [if_neg hoa]
                rw [if_pos ⟨hk0, hoa⟩] at hR
                subst hR
                rw [if_neg m4n0]
          · rw [bI_f hth, if_pos rfl]
            rw [if_pos hth] at hR
            subst hR
            rw [if_neg m4n0]
        · rw [bI_f hu, if_neg nn0]
          rw [if_pos (fun z => hu z.2)] at hR
          subst hR
          rw [if_neg m3n0]
      · rw [bI_f hk, if_pos rfl]
        rw [if_pos (fun z => hk z.1)] at hR
        subst hR
        rw [if_neg m3n0]
    by_cases hk0 : gr = -1
    · rw [if_pos hk0]
      exact core (fun z => z.1 hk0)
    · rw [if_neg hk0, p_ground9 (by omega) gr m h.g9, cbR_some]
      by_cases hgr : inN gr g
      · rw [bI_t hgr, if_pos n10]
        exact core (fun z => z.2 hgr)
      · rw [bI_f hgr, if_neg nn0]
        rw [if_pos ⟨hk0, hgr⟩] at hR
        subst hR
        rw [if_neg m2n0]
  · rw [bI_f ha, if_pos rfl]
    rw [if_pos ha] at hR
    subst hR
    rw [if_neg m2n0]
theorem dRef_0 {th ow : Int32} {l g d : Nat} {a s gr u : Int32} (h : dRef th ow l g d a s gr u = 0) : inN a l ∧ (gr = -1 ∨ inN gr g) ∧ inR s 1 9999 ∧ inR u 0 999 ∧ d < 8 := by
  unfold dRef at h
  by_cases h1 : inN a l
  · rw [if_neg (not_not_intro h1)] at h
    by_cases h2 : ¬ gr = -1 ∧ ¬ inN gr g
    · rw [if_pos h2] at h; exact absurd h m2n0
    · rw [if_neg h2] at h
      by_cases h3 : inR s 1 9999 ∧ inR u 0 999
      · rw [if_neg (not_not_intro h3)] at h
        by_cases h4 : isTh th a l
        · rw [if_neg (not_not_intro h4)] at h
          by_cases h5 : ¬ gr = -1 ∧ ¬ ow = a
          · rw [if_pos h5] at h; exact absurd h m4n0
          · rw [if_neg h5] at h
            by_cases h6 : d < 8
            · refine ⟨h1, ?_, h3.1, h3.2, h6⟩
              by_cases z : gr = -1
              · exact Or.inl z
              · by_cases zz : inN gr g
                · exact Or.inr zz
                · exact absurd ⟨z, zz⟩ h2
            · rw [if_neg h6] at h; exact absurd h m5n0
        · rw [if_pos h4] at h; exact absurd h m4n0
      · rw [if_pos h3] at h; exact absurd h m3n0
  · rw [if_pos h1] at h; exact absurd h m2n0
theorem inR_1 {a : Int32} {n : Nat} (hn : n < 2 ^ 31) (h : inR a 1 (nI n)) : ∃ k, 1 ≤ k ∧ k ≤ n ∧ a = nI k := by
  have h0 : ¬ a < 0 := fun q => h.1 (Int32.lt_trans q (by decide))
  obtain ⟨k, hk, rfl⟩ := inR_nat hn ⟨h0, h.2⟩
  refine ⟨k, ?_, hk, rfl⟩
  rcases Nat.eq_zero_or_pos k with rfl | q
  · exact absurd (by decide : nI 0 < (1 : Int32)) h.1
  · exact q
theorem q_debt {m : pMem} (I : Inv m) (a s gr u : Int32) : ∃ r m1 m2, sX8_debt a s gr u m = some (r, m1) ∧ sX9_debt a s gr u m1 = some (r, m2) ∧ Inv m2 := by
  have I0 := I
  obtain ⟨c, g, l, p, w, v, d, tt, n, b, h, hT, hP, hG⟩ := I
  have e := s8_debt h hG.d2 hG.dle a s gr u
  have e9 := s9_debt h hG.d9 hG.dle a s gr u
  generalize hR : dRef (m.1 75 (IHc m c u)) (m.1 74 (8 * IHc m c u + nv gr)) l g d a s gr u = R at e e9
  rw [e]
  by_cases hz : R = 0
  · subst hz
    rw [if_pos rfl]
    obtain ⟨h1, h2, h3, h5, h6⟩ := dRef_0 hR
    have h' : IH (addD8 m d a s gr u) c g l := h.congr ⟨rfl, rfl, rfl, rfl, rfl, rfl, rfl, rfl, rfl, rfl, rfl, rfl, rfl, rfl, rfl, rfl, rfl, rfl, rfl, rfl, rfl, rfl, rfl, rfl, rfl, rfl, rfl, rfl, rfl, rfl, rfl, fun j hj => by simp only [addD8, st1_1, mkM_1]; (repeat rw [if_neg (by omega)])⟩
    have e10 := s9_debt h' (d := d) hG.d9 hG.dle a s gr u
    rw [show dRef ((addD8 m d a s gr u).1 75 (IHc (addD8 m d a s gr u) c u)) ((addD8 m d a s gr u).1 74 (8 * IHc (addD8 m d a s gr u) c u + nv gr)) l g d a s gr u = 0 from hR, if_pos rfl] at e10
    refine ⟨_, _, _, rfl, e10, ?_⟩
    have j1 := (inN_iff (show l < 2 ^ 31 by have := h.lle; omega)).mp h1
    refine ⟨c, g, l, p, w, v, d + 1, tt, n, b, h'.congr ⟨rfl, rfl, rfl, rfl, rfl, rfl, rfl, rfl, rfl, rfl, rfl, rfl, rfl, rfl, rfl, rfl, rfl, rfl, rfl, rfl, rfl, rfl, rfl, rfl, rfl, rfl, rfl, rfl, rfl, rfl, rfl, fun j hj => by simp only [addD8, addD9, st1_1, mkM_1]; (repeat rw [if_neg (by omega)])⟩, hT.congr ⟨rfl, rfl, rfl, rfl, rfl, rfl⟩, hP.congr ⟨rfl, rfl, rfl, rfl, rfl, rfl, rfl, rfl, rfl, rfl, rfl, rfl, rfl, rfl, rfl, rfl, rfl, rfl, rfl, rfl, rfl, rfl, rfl, rfl, rfl, rfl, rfl, rfl, rfl, rfl, rfl, rfl, rfl, rfl, rfl, rfl⟩, ?_⟩
    refine ⟨rfl, rfl, by omega, ?_, ?_, ?_, ?_, ?_, ?_, ?_, ?_, ?_, hG.t9, hG.t2, hG.tle, hG.tk, hG.tm, hG.tp, hG.tkr, hG.tmr, hG.tgr, hG.n9, hG.n5, hG.nle, hG.nl, hG.nb, hG.nw, hG.nlr, hG.nbr, hG.nwr⟩
    · show upd (m.1 11) d a = upd (m.1 95) d a
      rw [hG.dl]
    · show upd (m.1 12) d s = upd (m.1 96) d s
      rw [hG.dsu]
    · show upd (m.1 13) d gr = upd (m.1 97) d gr
      rw [hG.dg]
    · show upd (m.1 14) d u = upd (m.1 98) d u
      rw [hG.dd]
    · exact rg_up (P := fun z => ∃ k, k < l ∧ z = nI k) hG.dlr j1
    · exact rg_up (P := fun z => ∃ k, 1 ≤ k ∧ k ≤ 9999 ∧ z = nI k) hG.dsr (inR_1 (n := 9999) (by decide) h3)
    · refine rg_up (P := fun z => z = -1 ∨ ∃ k, k < g ∧ z = nI k) hG.dgr ?_
      exact h2.imp id (fun z => (inN_iff (show g < 2 ^ 31 by have := h.gle; omega)).mp z)
    · exact rg_up (P := fun z => ∃ k, k ≤ 999 ∧ z = nI k) hG.ddr (day_of h5)
    · show (if m.1 2 6 < u then u else m.1 2 6) = mxF (upd (m.1 98) d u) (d + 1)
      rw [mxF_up, hG.lat]
  · rw [if_neg hz]
    rw [if_neg hz] at e9
    exact ⟨_, _, _, rfl, e9, I0⟩
/-! things -/
def addT8 (m : pMem) (t : Nat) (k n gr : Int32) : pMem := st1 (st1 (st1 (st1 m 15 t k) 16 t n) 17 t gr) 2 10 (nI (t + 1))
def addT9 (m : pMem) (t : Nat) (k n gr : Int32) : pMem := st1 (st1 (st1 (st1 m 99 t k) 100 t n) 101 t gr) 9 51 (nI (t + 1))
def tRef (g t : Nat) (k n gr : Int32) : Int32 :=
  if ¬ inR k 0 2 then -3 else if k = 1 ∧ ¬ inR n 1 9999 then -3 else if k = 0 ∧ ¬ inN gr g then -2 else if t < 8 then 0 else -5
theorem s8_thing {m : pMem} {g t : Nat} (hg : m.1 3 2 = nI g) (ht : m.1 2 10 = nI t) (hle : t ≤ 8) (k n gr : Int32) : sX8_thing k n gr m = some (if tRef g t k n gr = 0 then (nI t, addT8 m t k (if k = 1 then n else 1) (if k = 0 then gr else -1)) else (tRef g t k n gr, m)) := by
  generalize hR : tRef g t k n gr = R
  unfold tRef at hR
  unfold sX8_thing sX8_thing_b9 sX8_thing_b29
  have core : inR k 0 2 → ¬ (k = 1 ∧ ¬ inR n 1 9999) → sX8_thing_b32 k n gr m = some (if R = 0 then (nI t, addT8 m t k (if k = 1 then n else 1) (if k = 0 then gr else -1)) else (R, m)) := by
    intro h1 h2
    rw [if_neg (not_not_intro h1), if_neg h2] at hR
    unfold sX8_thing_b32
    have fin : ¬ (k = 0 ∧ ¬ inN gr g) → sX8_thing_b50 k n gr m = some (if R = 0 then (nI t, addT8 m t k (if k = 1 then n else 1) (if k = 0 then gr else -1)) else (R, m)) := by
      intro h3
      rw [if_neg h3] at hR
      unfold sX8_thing_b50
      rw [ht]
      by_cases h8 : t < 8
      · rw [if_pos ((ne8 hle).1.mpr h8)]
        rw [if_pos h8] at hR
        subst hR
        rw [if_pos rfl]
        have add : ∀ x y, sX8_thing_b89 y x k m = some (nI t, addT8 m t k x y) := by
          intro x y
          unfold sX8_thing_b89 sX1_addThing
          have hob := noob (i := t) (n := 8) (by omega) h8
          have hcl := nI_clamp (show t < 2 ^ 31 by omega)
          simp only [bnd_eq, ht, if_neg hob, hcl]
          rw [show (st1 (st1 (st1 m 15 t k) 16 t x) 17 t y).1 2 10 = nI t from ht, nI_1, cbE_some]
          rfl
        unfold sX8_thing_b80
        by_cases k1 : k = 1
        · have k0 : ¬ k = 0 := by rw [k1]; decide
          rw [if_neg (not_not_intro k1), if_pos k0, if_pos k1, if_neg k0]
          exact add _ _
        · rw [if_pos k1, if_neg k1]
          by_cases k0 : k = 0
          · rw [if_neg (not_not_intro k0), if_pos k0]; exact add _ _
          · rw [if_pos k0, if_neg k0]; exact add _ _
      · rw [if_neg (fun z => h8 ((ne8 hle).1.mp z))]
        rw [if_neg h8] at hR
        subst hR
        rw [if_neg m5n0]
    by_cases k0 : k = 0
    · rw [if_neg (not_not_intro k0), p_ground2 gr m hg, cbR_some]
      by_cases hgr : inN gr g
      · rw [bI_t hgr, if_pos n10]; exact fin (fun z => z.2 hgr)
      · rw [bI_f hgr, if_neg nn0]
        rw [if_pos ⟨k0, hgr⟩] at hR
        subst hR
        rw [if_neg m2n0]
    · rw [if_pos k0]; exact fin (fun z => k0 z.1)
  have le2 : k ≤ 2 ↔ ¬ (2 : Int32) < k := Int32.not_lt.symm
  have le9 : n ≤ 9999 ↔ ¬ (9999 : Int32) < n := Int32.not_lt.symm
  by_cases h1 : inR k 0 2
  · rw [if_neg h1.1, if_pos (le2.mpr h1.2)]
    by_cases k1 : k = 1
    · rw [if_neg (not_not_intro k1)]
      by_cases hn : inR n 1 9999
      · rw [if_neg hn.1, if_pos (le9.mpr hn.2)]; exact core h1 (fun z => z.2 hn)
      · rw [if_neg (not_not_intro h1), if_pos ⟨k1, hn⟩] at hR
        subst hR
        rw [if_neg m3n0]
        by_cases n1 : n < 1
        · rw [if_pos n1]
        · rw [if_neg n1, if_neg (fun z => hn ⟨n1, le9.mp z⟩)]
    · rw [if_pos k1]; exact core h1 (fun z => k1 z.1)
  · rw [if_pos h1] at hR
    subst hR
    rw [if_neg m3n0]
    by_cases k0 : k < 0
    · rw [if_pos k0]
    · rw [if_neg k0, if_neg (fun z => h1 ⟨k0, le2.mp z⟩)]
theorem s9_thing {m : pMem} {g t : Nat} (hg : m.1 9 0 = nI g) (hg8 : g ≤ 8) (ht : m.1 9 51 = nI t) (hle : t ≤ 8) (k n gr : Int32) : sX9_thing k n gr m = some (if tRef g t k n gr = 0 then (nI t, addT9 m t k (if k = 1 then n else 1) gr) else (tRef g t k n gr, m)) := by
  generalize hR : tRef g t k n gr = R
  unfold tRef at hR
  unfold sX9_thing sX9_thing_b25
  have core : inR k 0 2 → ¬ (k = 1 ∧ ¬ inR n 1 9999) → sX9_thing_b28 k n gr m = some (if R = 0 then (nI t, addT9 m t k (if k = 1 then n else 1) gr) else (R, m)) := by
    intro h1 h2
    rw [if_neg (not_not_intro h1), if_neg h2] at hR
    unfold sX9_thing_b28
    have fin : ¬ (k = 0 ∧ ¬ inN gr g) → sX9_thing_b43 k n gr m = some (if R = 0 then (nI t, addT9 m t k (if k = 1 then n else 1) gr) else (R, m)) := by
      intro h3
      rw [if_neg h3] at hR
      unfold sX9_thing_b43
      rw [ht]
      by_cases h8 : t < 8
      · rw [if_pos (fun z => absurd ((ne8 hle).2.mp z) (by omega))]
        rw [if_pos h8] at hR
        subst hR
        rw [if_pos rfl]
        have hob := noob (i := t) (n := 8) (by omega) h8
        have hcl := nI_clamp (show t < 2 ^ 31 by omega)
        have e1 : (st1 m 99 t k).1 9 51 = nI t := ht
        have add : ∀ x, sX9_thing_b83 gr x (nI t) (st1 m 99 t k) = some (nI t, addT9 m t k x gr) := by
          intro x
          unfold sX9_thing_b83
          have e2 : (st1 (st1 m 99 t k) 100 t x).1 9 51 = nI t := ht
          have e3 : (st1 (st1 (st1 m 99 t k) 100 t x) 101 t gr).1 9 51 = nI t := ht
          simp only [bnd_eq, if_neg hob, hcl, e2, e3, nI_1]
          unfold addT9
          rw [show (st1 (st1 (st1 (st1 m 99 t k) 100 t x) 101 t gr) 9 51 (nI (t + 1))).1 9 51 = nI (t + 1) from rfl, nI_pred]
        rw [if_neg hob, bnd_eq, hcl, e1]
        by_cases k1 : k = 1
        · rw [if_neg (not_not_intro k1), if_pos k1]; exact add _
        · rw [if_pos k1, if_neg k1]; exact add _
      · rw [if_neg (not_not_intro ((ne8 hle).2.mpr (by omega)))]
        rw [if_neg h8] at hR
        subst hR
        rw [if_neg m5n0]
    by_cases k0 : k = 0
    · rw [if_neg (not_not_intro k0), p_ground9 (by omega) gr m hg, cbR_some]
      by_cases hgr : inN gr g
      · rw [bI_t hgr, if_pos n10]; exact fin (fun z => z.2 hgr)
      · rw [bI_f hgr, if_neg nn0]
        rw [if_pos ⟨k0, hgr⟩] at hR
        subst hR
        rw [if_neg m2n0]
    · rw [if_pos k0]; exact fin (fun z => k0 z.1)
  rw [p_in, cbR_some]
  by_cases h1 : inR k 0 2
  · rw [bI_t h1, if_neg n10]
    by_cases k1 : k = 1
    · rw [if_neg (not_not_intro k1), p_in, cbR_some]
      by_cases hn : inR n 1 9999
      · rw [bI_t hn, if_pos n10]; exact core h1 (fun z => z.2 hn)
      · rw [bI_f hn, if_neg nn0]
        rw [if_neg (not_not_intro h1), if_pos ⟨k1, hn⟩] at hR
        subst hR
        rw [if_neg m3n0]
    · rw [if_pos k1]; exact core h1 (fun z => k1 z.1)
  · rw [bI_f h1, if_pos rfl]
    rw [if_pos h1] at hR
    subst hR
    rw [if_neg m3n0]
theorem tRef_0 {g t : Nat} {k n gr : Int32} (h : tRef g t k n gr = 0) : inR k 0 2 ∧ (k = 1 → inR n 1 9999) ∧ (k = 0 → inN gr g) ∧ t < 8 := by
  unfold tRef at h
  by_cases h1 : inR k 0 2
  · rw [if_neg (not_not_intro h1)] at h
    by_cases h2 : k = 1 ∧ ¬ inR n 1 9999
    · rw [if_pos h2] at h; exact absurd h m3n0
    · rw [if_neg h2] at h
      by_cases h3 : k = 0 ∧ ¬ inN gr g
      · rw [if_pos h3] at h; exact absurd h m2n0
      · rw [if_neg h3] at h
        by_cases h4 : t < 8
        · refine ⟨h1, fun z => ?_, fun z => ?_, h4⟩
          · by_cases q : inR n 1 9999
            · exact q
            · exact absurd ⟨z, q⟩ h2
          · by_cases q : inN gr g
            · exact q
            · exact absurd ⟨z, q⟩ h3
        · rw [if_neg h4] at h; exact absurd h m5n0
  · rw [if_pos h1] at h; exact absurd h m3n0
theorem q_thing {m : pMem} (I : Inv m) (k x gr : Int32) : ∃ r m1 m2, sX8_thing k x gr m = some (r, m1) ∧ sX9_thing k x gr m1 = some (r, m2) ∧ Inv m2 := by
  have I0 := I
  obtain ⟨c, g, l, p, w, v, d, t, n, b, h, hT, hP, hG⟩ := I
  have hg := h.gle
  rw [s8_thing h.g3 hG.t2 hG.tle]
  by_cases hz : tRef g t k x gr = 0
  · rw [if_pos hz]
    obtain ⟨h1, h2, h3, h4⟩ := tRef_0 hz
    refine ⟨_, _, _, rfl, (s9_thing (m := addT8 m t k (if k = 1 then x else 1) (if k = 0 then gr else -1)) h.g9 hg hG.t9 hG.tle k x gr).trans (by rw [if_pos hz]), ?_⟩
    refine ⟨c, g, l, p, w, v, d, t + 1, n, b, h.congr ⟨rfl, rfl, rfl, rfl, rfl, rfl, rfl, rfl, rfl, rfl, rfl, rfl, rfl, rfl, rfl, rfl, rfl, rfl, rfl, rfl, rfl, rfl, rfl, rfl, rfl, rfl, rfl, rfl, rfl, rfl, rfl, fun j hj => by simp only [addT8, addT9, st1_1, mkM_1]; (repeat rw [if_neg (by omega)])⟩, hT.congr ⟨rfl, rfl, rfl, rfl, rfl, rfl⟩, hP.congr ⟨rfl, rfl, rfl, rfl, rfl, rfl, rfl, rfl, rfl, rfl, rfl, rfl, rfl, rfl, rfl, rfl, rfl, rfl, rfl, rfl, rfl, rfl, rfl, rfl, rfl, rfl, rfl, rfl, rfl, rfl, rfl, rfl, rfl, rfl, rfl, rfl⟩, ?_⟩
    refine ⟨hG.d9, hG.d2, hG.dle, hG.dl, hG.dsu, hG.dg, hG.dd, hG.dlr, hG.dsr, hG.dgr, hG.ddr, hG.lat, rfl, rfl, by omega, ?_, ?_, ?_, ?_, ?_, ?_, hG.n9, hG.n5, hG.nle, hG.nl, hG.nb, hG.nw, hG.nlr, hG.nbr, hG.nwr⟩
    · show upd (m.1 15) t k = upd (m.1 99) t k
      rw [hG.tk]
    · show upd (m.1 16) t (if k = 1 then x else 1) = upd (m.1 100) t (if k = 1 then x else 1)
      rw [hG.tm]
    · show ∀ i, i < t + 1 → upd (m.1 99) t k i = 0 → upd (m.1 17) t (if k = 0 then gr else -1) i = upd (m.1 101) t gr i
      intro i hi
      by_cases ei : i = t
      · subst ei
        rw [upd_eq, upd_eq, upd_eq]
        intro z
        rw [if_pos z]
      · rw [upd_ne _ _ ei, upd_ne _ _ ei, upd_ne _ _ ei]
        exact hG.tp i (by omega)
    · exact rg_up (P := fun z => ∃ k, k ≤ 2 ∧ z = nI k) hG.tkr (inR_nat (n := 2) (by decide) h1)
    · show ∀ i, i < t + 1 → ∃ q, 1 ≤ q ∧ q ≤ 9999 ∧ upd (m.1 100) t (if k = 1 then x else 1) i = nI q ∧ (upd (m.1 99) t k i ≠ 1 → q = 1)
      intro i hi
      by_cases ei : i = t
      · subst ei
        rw [upd_eq, upd_eq]
        by_cases k1 : k = 1
        · rw [if_pos k1]
          obtain ⟨q, q1, q2, q3⟩ := inR_1 (n := 9999) (by decide) (h2 k1)
          exact ⟨q, q1, q2, q3, fun z => absurd k1 z⟩
        · rw [if_neg k1]
          exact ⟨1, by omega, by omega, rfl, fun _ => rfl⟩
      · rw [upd_ne _ _ ei, upd_ne _ _ ei]
        exact hG.tmr i (by omega)
    · show ∀ i, i < t + 1 → upd (m.1 99) t k i = 0 → ∃ q, q < g ∧ upd (m.1 101) t gr i = nI q
      intro i hi
      by_cases ei : i = t
      · subst ei
        rw [upd_eq, upd_eq]
        intro z
        exact (inN_iff (by omega)).mp (h3 z)
      · rw [upd_ne _ _ ei, upd_ne _ _ ei]
        exact hG.tgr i (by omega)
  · rw [if_neg hz]
    exact ⟨_, _, _, rfl, (s9_thing h.g9 hg hG.t9 hG.tle k x gr).trans (by rw [if_neg hz]), I0⟩
