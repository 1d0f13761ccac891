/-! pacts, debts -/
/-- why a pact is refused; 0: it is not -/
def pRef (th ow : Int32) (l g p : Nat) (k a t gr u : Int32) : Int32 :=
  if ¬ (inN a l ∧ inR t 0 5) then -2 else if k = 0 ∧ ¬ inN gr g then -2 else if ¬ (inR k 0 2 ∧ inR u 0 999) then -3
  else if ¬ isTh th a l then -4 else if k = 0 ∧ ¬ ow = a then -4 else if p < 12 then 0 else -5
def addPa8 (m : pMem) (p : Nat) (k a gr u : Int32) : pMem := st1 (st1 (st1 (st1 (st1 (st1 m 44 p k) 45 p a) 46 p gr) 47 p u) 4 9 (if m.1 4 9 < u then u else m.1 4 9)) 4 8 (nI (p + 1))
def addPa9 (m : pMem) (p : Nat) (k a t gr u : Int32) : pMem := st1 (st1 (st1 (st1 (st1 (st1 m 79 p k) 80 p a) 81 p t) 82 p gr) 83 p u) 9 26 (nI (p + 1))
theorem day_ex (u : Int32) : ∃ q, (inR u 0 999 → q ≤ 999 ∧ u = nI q) := by
  by_cases hu : inR u 0 999
  · obtain ⟨q, h1, h2⟩ := day_of hu
    exact ⟨q, fun _ => ⟨h1, h2⟩⟩
  · exact ⟨0, fun q => absurd q hu⟩
theorem m2n0 : ¬ (-2 : Int32) = 0 := by decide
theorem m3n0 : ¬ (-3 : Int32) = 0 := by decide
theorem m4n0 : ¬ (-4 : Int32) = 0 := by decide
theorem m5n0 : ¬ (-5 : Int32) = 0 := by decide
theorem e_add {m : pMem} {p q : Nat} (hp : m.1 4 8 = nI p) (hlt : p < 12) (k a gr u : Int32) : sX3_addPact k a gr u (mkM m q) = some (nI p, addPa8 (mkM m q) p k a gr u) := by
  unfold sX3_addPact
  have hob := noob (i := p) (n := 12) (by omega) hlt
  have hcl := nI_clamp (show p < 2 ^ 31 by omega)
  have e0 : (mkM m q).1 4 8 = nI p := hp
  simp only [bnd_eq, e0, if_neg hob, hcl]
  have e1 : (st1 (st1 (st1 (st1 (st1 (mkM m q) 44 p k) 45 p a) 46 p gr) 47 p u) 4 9 (if (st1 (st1 (st1 (st1 (mkM m q) 44 p k) 45 p a) 46 p gr) 47 p u).1 4 9 < u then u else (st1 (st1 (st1 (st1 (mkM m q) 44 p k) 45 p a) 46 p gr) 47 p u).1 4 9)).1 4 8 = nI p := hp
  rw [e1, nI_1]
  rfl
theorem s8_pact {m : pMem} {c g l p : Nat} (h : IH m c g l) (hp : m.1 4 8 = nI p) (hle : p ≤ 12) (k a t gr u : Int32) : ∃ q, (inR u 0 999 → q ≤ 999 ∧ u = nI q) ∧ sX8_pact k a t gr u m = some (if pRef (m.1 75 (IHc m c u)) (m.1 74 (8 * IHc m c u + nv gr)) l g p k a t gr u = 0 then (nI p, addPa8 (mkM m q) p k a (if k = 0 then gr else -1) u) else (pRef (m.1 75 (IHc m c u)) (m.1 74 (8 * IHc m c u + nv gr)) l g p k a t gr u, m)) := by
  obtain ⟨q, hq⟩ := day_ex u
  refine ⟨q, hq, ?_⟩
  have hgl := h.gle
  have hll := h.lle
  generalize hR : pRef (m.1 75 (IHc m c u)) (m.1 74 (8 * IHc m c u + nv gr)) l g p k a t gr u = R
  unfold pRef at hR
  unfold sX8_pact sX8_pact_b18
  rw [p_land2 a m h.l3, cbR_some]
  by_cases ha : inN a l
  · rw [bI_t ha, if_neg n10, p_third8, cbR_some]
    by_cases ht : inR t 0 5
    · rw [bI_t ht, if_pos n10]
      rw [if_neg (not_not_intro ⟨ha, ht⟩)] at hR
      -- behind the ground's check
      have core : ¬ (k = 0 ∧ ¬ inN gr g) → sX8_pact_b40 k a gr u m = some (if R = 0 then (nI p, addPa8 (mkM m q) p k a (if k = 0 then gr else -1) u) else (R, m)) := by
        intro hkg
        rw [if_neg hkg] at hR
        unfold sX8_pact_b40 sX8_pact_b57
        by_cases hk : inR k 0 2
        · rw [if_neg hk.1, if_neg hk.2, p_day8, cbR_some]
          by_cases hu : inR u 0 999
          · rw [bI_t hu, if_pos n10, h.changesBy, cbR_some, h.isThere2 (h.cle' u), cbR_some]
            rw [if_neg (not_not_intro ⟨hk, hu⟩)] at hR
            obtain ⟨hq1, rfl⟩ := hq hu
            by_cases hth : isTh (m.1 75 (IHc m c (nI q))) a l
            · rw [bI_t hth, if_pos n10]
              rw [if_neg (not_not_intro hth)] at hR
              have fin : ¬ (k = 0 ∧ ¬ m.1 74 (8 * IHc m c (nI q) + nv gr) = a) → sX8_pact_b109 k a gr (nI q) m = some (if R = 0 then (nI p, addPa8 (mkM m q) p k a (if k = 0 then gr else -1) (nI q)) else (R, m)) := by
                intro ho
                rw [if_neg ho] at hR
                unfold sX8_pact_b109
                rw [hp]
                by_cases h12 : p < 12
                · rw [if_pos ((ne12 hle).1.mpr h12), p_mark hq1, cbE_some]
                  rw [if_pos h12] at hR
                  subst hR
                  rw [if_pos rfl]
                  unfold sX8_pact_b149
                  by_cases hk0 : k = 0
                  · rw [if_neg (not_not_intro hk0), if_pos hk0, e_add hp h12, cbE_some]
                  · rw [if_pos hk0, if_neg hk0, e_add hp h12, cbE_some]
                · rw [if_neg (fun z => h12 ((ne12 hle).1.mp z))]
                  rw [if_neg h12] at hR
                  subst hR
                  rw [if_neg m5n0]
              by_cases hk0 : k = 0
              · rw [if_neg (not_not_intro hk0)]
                have hgr : inN gr g := by
                  by_cases z : inN gr g
                  · exact z
                  · exact absurd ⟨hk0, z⟩ hkg
                obtain ⟨i, hi, rfl⟩ := (inN_iff (by omega)).mp hgr
                obtain ⟨o, ho1, ho2, -, ho3⟩ := h.ownerOf (h.cle' (nI q)) hi
                rw [ho3, cbR_some]
                rw [nv_nI (by omega), ho2] at hR fin
                by_cases hoa : nI o = a
                · rw [if_pos hoa]
                  exact fin (fun z => z.2 hoa)
                · rw [if_neg hoa]
                  rw [if_pos ⟨hk0, hoa⟩] at hR
                  subst hR
                  rw [if_neg m4n0]
              · rw [if_pos hk0]
                exact fin (fun z => hk0 z.1)
            · rw [bI_f hth, if_neg nn0]
              rw [if_pos hth] at hR
              subst hR
              rw [if_neg m4n0]
          · rw [bI_f hu, if_neg nn0]
            rw [if_pos (fun z => hu z.2)] at hR
            subst hR
            rw [if_neg m3n0]
        · rw [if_pos (fun z => hk z.1)] at hR
          subst hR
          rw [if_neg m3n0]
          by_cases h0 : k < 0
          · rw [if_pos h0]
          · rw [if_neg h0, if_pos (by
              by_cases z : (2 : Int32) < k
              · exact z
              · exact absurd ⟨h0, z⟩ hk)]
      by_cases hk0 : k = 0
      · rw [if_neg (not_not_intro hk0), p_ground2 gr m h.g3, cbR_some]
        by_cases hgr : inN gr g
        · rw [bI_t hgr, if_pos n10]
          exact core (fun z => z.2 hgr)
        · rw [bI_f hgr, if_neg nn0]
          rw [if_pos ⟨hk0, hgr⟩] at hR
          subst hR
          rw [if_neg m2n0]
      · rw [if_pos hk0]
        exact core (fun z => hk0 z.1)
    · rw [bI_f ht, if_neg nn0]
      rw [if_pos (fun z => ht z.2)] at hR
      subst hR
      rw [if_neg m2n0]
  · rw [bI_f ha, if_pos rfl]
    rw [if_pos (fun z => ha z.1)] at hR
    subst hR
    rw [if_neg m2n0]
theorem ix8 {x : Nat} {i : Nat} : (8 : Int32) * nI x + nI i = nI (8 * x + i) := by rw [show (8 : Int32) = nI 8 from rfl, nI_mul, nI_add]
theorem s9_pact {m : pMem} {c g l p : Nat} (h : IH m c g l) (hp : m.1 9 26 = nI p) (hle : p ≤ 12) (k a t gr u : Int32) : sX9_pact k a t gr u m = some (if pRef (m.1 75 (IHc m c u)) (m.1 74 (8 * IHc m c u + nv gr)) l g p k a t gr u = 0 then (nI p, addPa9 m p k a t gr u) else (pRef (m.1 75 (IHc m c u)) (m.1 74 (8 * IHc m c u + nv gr)) l g p k a t gr u, m)) := by
  have hgl := h.gle
  have hll := h.lle
  have hcl := h.cle
  generalize hR : pRef (m.1 75 (IHc m c u)) (m.1 74 (8 * IHc m c u + nv gr)) l g p k a t gr u = R
  unfold pRef at hR
  unfold sX9_pact sX9_pact_b28
  rw [p_land9 (by omega) a m h.l9, cbR_some]
  by_cases ha : inN a l
  · rw [bI_t ha, if_neg n10, p_third9, cbR_some]
    by_cases ht : inR t 0 5
    · rw [bI_t ht, if_neg n10]
      rw [if_neg (not_not_intro ⟨ha, ht⟩)] at hR
      have core : ¬ (k = 0 ∧ ¬ inN gr g) → sX9_pact_b31 k a t gr u m = some (if R = 0 then (nI p, addPa9 m p k a t gr u) else (R, m)) := by
        intro hkg
        rw [if_neg hkg] at hR
        unfold sX9_pact_b31 sX9_pact_b48 sX9_pact_b90
        rw [p_in, cbR_some]
        by_cases hk : inR k 0 2
        · rw [bI_t hk, if_neg n10, p_day9, cbR_some]
          by_cases hu : inR u 0 999
          · rw [bI_t hu, if_pos n10, h.doneBy, cbR_some, h.isThere9 (h.cle' u), cbR_some]
            rw [if_neg (not_not_intro ⟨hk, hu⟩)] at hR
            have hcu := h.cle' u
            by_cases hth : isTh (m.1 75 (IHc m c u)) a l
            · rw [bI_t hth, if_neg n10]
              rw [if_neg (not_not_intro hth)] at hR
              have fin : ¬ (k = 0 ∧ ¬ m.1 74 (8 * IHc m c u + nv gr) = a) → sX9_pact_b93 k a t gr u m = some (if R = 0 then (nI p, addPa9 m p k a t gr u) else (R, m)) := by
                intro ho
                rw [if_neg ho] at hR
                unfold sX9_pact_b93
                rw [hp]
                by_cases h12 : p < 12
                · rw [if_pos (fun z => absurd ((ne12 hle).2.mp z) (by omega))]
                  rw [if_pos h12] at hR
                  subst hR
                  rw [if_pos rfl]
                  have hob := noob (i := p) (n := 12) (by omega) h12
                  have hcl := nI_clamp (show p < 2 ^ 31 by omega)
                  have e1 : (st1 m 79 p k).1 9 26 = nI p := hp
                  have e2 : (st1 (st1 m 79 p k) 80 p a).1 9 26 = nI p := hp
                  have e3 : (st1 (st1 (st1 m 79 p k) 80 p a) 81 p t).1 9 26 = nI p := hp
                  have e4 : (st1 (st1 (st1 (st1 m 79 p k) 80 p a) 81 p t) 82 p gr).1 9 26 = nI p := hp
                  have e5 : (st1 (st1 (st1 (st1 (st1 m 79 p k) 80 p a) 81 p t) 82 p gr) 83 p u).1 9 26 = nI p := hp
                  simp only [bnd_eq, if_neg hob, hcl, e1, e2, e3, e4, e5, nI_1]
                  unfold addPa9
                  rw [show (st1 (st1 (st1 (st1 (st1 (st1 m 79 p k) 80 p a) 81 p t) 82 p gr) 83 p u) 9 26 (nI (p + 1))).1 9 26 = nI (p + 1) from rfl, nI_pred]
                · rw [if_neg (not_not_intro ((ne12 hle).2.mpr (by omega)))]
                  rw [if_neg h12] at hR
                  subst hR
                  rw [if_neg m5n0]
              by_cases hk0 : k = 0
              · rw [if_neg (not_not_intro hk0)]
                have hgr : inN gr g := by
                  by_cases z : inN gr g
                  · exact z
                  · exact absurd ⟨hk0, z⟩ hkg
                obtain ⟨i, hi, rfl⟩ := (inN_iff (by omega)).mp hgr
                rw [ix8, if_neg (noob (by omega) (by omega)), nI_clamp (by omega)]
                rw [nv_nI (by omega)] at hR fin
                by_cases hoa : m.1 74 (8 * IHc m c u + i) = a
                · rw [if_pos hoa]
                  exact fin (fun z => z.2 hoa)
                · rw [if_neg hoa]
                  rw [if_pos ⟨hk0, hoa⟩] at hR
                  subst hR
                  rw [if_neg m4n0]
              · rw [if_pos hk0]
                exact fin (fun z => hk0 z.1)
            · rw [bI_f hth, if_pos rfl]
              rw [if_pos hth] at hR
              subst hR
              rw [if_neg m4n0]
          · rw [bI_f hu, if_neg nn0]
            rw [if_pos (fun z => hu z.2)] at hR
            subst hR
            rw [if_neg m3n0]
        · rw [bI_f hk, if_pos rfl]
          rw [if_pos (fun z => hk z.1)] at hR
          subst hR
          rw [if_neg m3n0]
      by_cases hk0 : k = 0
      · rw [if_neg (not_not_intro hk0), p_ground9 (by omega) gr m h.g9, cbR_some]
        by_cases hgr : inN gr g
        · rw [bI_t hgr, if_pos n10]
          exact core (fun z => z.2 hgr)
        · rw [bI_f hgr, if_neg nn0]
          rw [if_pos ⟨hk0, hgr⟩] at hR
          subst hR
          rw [if_neg m2n0]
      · rw [if_pos hk0]
        exact core (fun z => hk0 z.1)
    · rw [bI_f ht, if_pos rfl]
      rw [if_pos (fun z => ht z.2)] at hR
      subst hR
      rw [if_neg m2n0]
  · rw [bI_f ha, if_pos rfl]
    rw [if_pos (fun z => ha z.1)] at hR
    subst hR
    rw [if_neg m2n0]
theorem pRef_0 {th ow : Int32} {l g p : Nat} {k a t gr u : Int32} (h : pRef th ow l g p k a t gr u = 0) : inN a l ∧ inR t 0 5 ∧ (k = 0 → inN gr g) ∧ inR k 0 2 ∧ inR u 0 999 ∧ p < 12 := by
  unfold pRef at h
  by_cases h1 : inN a l ∧ inR t 0 5
  · rw [if_neg (not_not_intro h1)] at h
    by_cases h2 : k = 0 ∧ ¬ inN gr g
    · rw [if_pos h2] at h; exact absurd h m2n0
    · rw [if_neg h2] at h
      by_cases h3 : inR k 0 2 ∧ inR u 0 999
      · rw [if_neg (not_not_intro h3)] at h
        by_cases h4 : isTh th a l
        · rw [if_neg (not_not_intro h4)] at h
          by_cases h5 : k = 0 ∧ ¬ ow = a
          · rw [if_pos h5] at h; exact absurd h m4n0
          · rw [if_neg h5] at h
            by_cases h6 : p < 12
            · exact ⟨h1.1, h1.2, fun z => by
                by_cases zz : inN gr g
                · exact zz
                · exact absurd ⟨z, zz⟩ h2, h3.1, h3.2, h6⟩
            · rw [if_neg h6] at h; exact absurd h m5n0
        · rw [if_pos h4] at h; exact absurd h m4n0
      · rw [if_pos h3] at h; exact absurd h m3n0
  · rw [if_pos h1] at h; exact absurd h m2n0
theorem mxF_up (f : Nat → Int32) (n : Nat) (u : Int32) : mxF (upd f n u) (n + 1) = if mxF f n < u then u else mxF f n := by
  have e : ∀ k, k ≤ n → mxF (upd f n u) k = mxF f k := by
    intro k
    induction k with
    | zero => intro _; rfl
    | succ k ih =>
      intro hk
      show (if mxF (upd f n u) k < upd f n u k then upd f n u k else mxF (upd f n u) k) = (if mxF f k < f k then f k else mxF f k)
      rw [ih (by omega), upd_ne _ _ (by omega)]
  show (if mxF (upd f n u) n < upd f n u n then upd f n u n else mxF (upd f n u) n) = _
  rw [e n (Nat.le_refl _), upd_eq]
theorem q_pact {m : pMem} (I : Inv m) (k a t gr u : Int32) : ∃ r m1 m2, sX8_pact k a t gr u m = some (r, m1) ∧ sX9_pact k a t gr u m1 = some (r, m2) ∧ Inv m2 := by
  have I0 := I
  obtain ⟨c, g, l, p, w, v, d, tt, n, b, h, hT, hP, hG⟩ := I
  obtain ⟨q, hq, e⟩ := s8_pact h hP.p4 hP.ple k a t gr u
  have e9 := s9_pact h hP.p9 hP.ple k a t gr u
  generalize hR : pRef (m.1 75 (IHc m c u)) (m.1 74 (8 * IHc m c u + nv gr)) l g p k a t gr u = R at e e9
  rw [e]
  by_cases hz : R = 0
  · subst hz
    rw [if_pos rfl]
    obtain ⟨h1, h2, h3, h4, h5, h6⟩ := pRef_0 hR
    obtain ⟨hq1, rfl⟩ := hq h5
    have h' : IH (addPa8 (mkM m q) p k a (if k = 0 then gr else -1) (nI q)) c g l := h.congr ⟨rfl, rfl, rfl, rfl, rfl, rfl, rfl, rfl, rfl, rfl, rfl, rfl, rfl, rfl, rfl, rfl, rfl, rfl, rfl, rfl, rfl, rfl, rfl, rfl, rfl, rfl, rfl, rfl, rfl, rfl, rfl, fun j hj => by simp only [addPa8, st1_1, mkM_1]; (repeat rw [if_neg (by omega)])⟩
    have e10 := s9_pact h' (p := p) hP.p9 hP.ple k a t gr (nI q)
    rw [show pRef ((addPa8 (mkM m q) p k a (if k = 0 then gr else -1) (nI q)).1 75 (IHc (addPa8 (mkM m q) p k a (if k = 0 then gr else -1) (nI q)) c (nI q))) ((addPa8 (mkM m q) p k a (if k = 0 then gr else -1) (nI q)).1 74 (8 * IHc (addPa8 (mkM m q) p k a (if k = 0 then gr else -1) (nI q)) c (nI q) + nv gr)) l g p k a t gr (nI q) = 0 from hR, if_pos rfl] at e10
    refine ⟨_, _, _, rfl, e10, ?_⟩
    have j1 := (inN_iff (show l < 2 ^ 31 by have := h.lle; omega)).mp h1
    refine ⟨c, g, l, p + 1, w, v, d, tt, n, b, h'.congr ⟨rfl, rfl, rfl, rfl, rfl, rfl, rfl, rfl, rfl, rfl, rfl, rfl, rfl, rfl, rfl, rfl, rfl, rfl, rfl, rfl, rfl, rfl, rfl, rfl, rfl, rfl, rfl, rfl, rfl, rfl, rfl, fun j hj => by simp only [addPa8, addPa9, st1_1, mkM_1]; (repeat rw [if_neg (by omega)])⟩, hT.congr ⟨rfl, rfl, rfl, rfl, rfl, rfl⟩, ?_, hG.congr ⟨rfl, rfl, rfl, rfl, rfl, rfl, rfl, rfl, rfl, rfl, rfl, rfl, rfl, rfl, rfl, rfl, rfl, rfl, rfl, rfl, rfl, rfl, rfl, rfl, rfl, rfl, rfl⟩⟩
    refine ⟨rfl, rfl, by omega, ?_, ?_, ?_, ?_, ?_, ?_, ?_, ?_, ?_, hP.w9, hP.w8, hP.wle, hP.wp, hP.wl, hP.wt, hP.wy, hP.wd, fun i hi => ?_, hP.wlr, hP.wtr, hP.wyr, hP.wdr, hP.v9, hP.v7, hP.vle, hP.vt, hP.vl, hP.vy, hP.vd, hP.vtr, hP.vlr, hP.vyr, hP.vdr, hP.lft, fun j hj k hk e => mkM_mk (hP.mc j hj k hk e), ?_, fun j hj k hk e => mkM_mk (hP.mw j hj k hk e), fun j hj k hk e => mkM_mk (hP.mv j hj k hk e)⟩
    · show upd (m.1 44) p k = upd (m.1 79) p k
      rw [hP.knd]
    · show upd (m.1 45) p a = upd (m.1 80) p a
      rw [hP.sgn]
    · show upd (m.1 47) p (nI q) = upd (m.1 83) p (nI q)
      rw [hP.day]
    · show ∀ i, i < p + 1 → upd (m.1 79) p k i = 0 → upd (m.1 46) p (if k = 0 then gr else -1) i = upd (m.1 82) p gr i
      intro i hi
      by_cases ei : i = p
      · subst ei
        rw [upd_eq, upd_eq, upd_eq]
        intro z
        rw [if_pos z]
      · rw [upd_ne _ _ ei, upd_ne _ _ ei, upd_ne _ _ ei]
        exact hP.plc i (by omega)
    · exact rg_up (P := fun z => ∃ k, k ≤ 2 ∧ z = nI k) hP.kr (inR_nat (n := 2) (by decide) h4)
    · exact rg_up (P := fun z => ∃ k, k < l ∧ z = nI k) hP.lr j1
    · show ∀ i, i < p + 1 → upd (m.1 79) p k i = 0 → ∃ k, k < g ∧ upd (m.1 82) p gr i = nI k
      intro i hi
      by_cases ei : i = p
      · subst ei
        rw [upd_eq, upd_eq]
        intro z
        exact (inN_iff (show g < 2 ^ 31 by have := h.gle; omega)).mp (h3 z)
      · rw [upd_ne _ _ ei, upd_ne _ _ ei]
        exact hP.gr i (by omega)
    · exact rg_up (P := fun z => ∃ k, k ≤ 999 ∧ z = nI k) hP.dr ⟨q, hq1, rfl⟩
    · show (if m.1 4 9 < nI q then nI q else m.1 4 9) = mxF (upd (m.1 83) p (nI q)) (p + 1)
      rw [mxF_up, hP.lat]
    · obtain ⟨k, hk, e⟩ := hP.wpr i hi
      exact ⟨k, by omega, e⟩
    · exact rg_up (P := fun z => ∀ k, k ≤ 999 → z = nI k → mkd (mkM m q) k) (fun i hi k hk e => mkM_mk (hP.mp i hi k hk e)) (fun k hk e => by
        have := nI_inj (by omega) (by omega) e
        subst this
        exact mkM_self m q)
  · rw [if_neg hz]
    rw [if_neg hz] at e9
    exact ⟨_, _, _, rfl, e9, I0⟩
