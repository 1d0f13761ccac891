/-! calls that store: pensioners, words, voices, pacts, debts, things, grounds -/
theorem rg_up {f : Nat → Int32} {n : Nat} {x : Int32} {P : Int32 → Prop} (h : ∀ i, i < n → P (f i)) (hx : P x) : ∀ i, i < n + 1 → P (upd f n x i) := by
  intro i hi
  by_cases e : i = n
  · subst e; rw [upd_eq]; exact hx
  · rw [upd_ne _ _ e]; exact h i (by omega)
theorem ne12 {n : Nat} (h : n ≤ 12) : (nI n < (12 : Int32) ↔ n < 12) ∧ (nI n = (12 : Int32) ↔ n = 12) := ⟨lt_iff (b := 12) (by omega) (by omega), nI_eq (b := 12) (by omega) (by omega)⟩
theorem ne8 {n : Nat} (h : n ≤ 8) : (nI n < (8 : Int32) ↔ n < 8) ∧ (nI n = (8 : Int32) ↔ n = 8) := ⟨lt_iff (b := 8) (by omega) (by omega), nI_eq (b := 8) (by omega) (by omega)⟩
theorem ne24 {n : Nat} (h : n ≤ 24) : (nI n < (24 : Int32) ↔ n < 24) ∧ (nI n = (24 : Int32) ↔ n = 24) := ⟨lt_iff (b := 24) (by omega) (by omega), nI_eq (b := 24) (by omega) (by omega)⟩
/-! pensioners -/
def addP8 (m : pMem) (n : Nat) (a x y : Int32) : pMem := st1 (st1 (st1 (st1 m 49 n a) 50 n x) 51 n y) 5 3 (nI (n + 1))
def addP9 (m : pMem) (n : Nat) (a x y : Int32) : pMem := st1 (st1 (st1 (st1 m 102 n a) 103 n x) 104 n y) 9 55 (nI (n + 1))
theorem s8_served {m : pMem} {l g n : Nat} (hl : m.1 3 6 = nI l) (hg : m.1 3 2 = nI g) (hn : m.1 5 3 = nI n) (hle : n ≤ 12) (a x y : Int32) : sX8_served a x y m = some (if inN a l ∧ inN x g ∧ inN y g then (if n < 12 then (nI n, addP8 m n a x y) else (-5, m)) else (-2, m)) := by
  unfold sX8_served sX8_served_b33
  rw [p_land2 a m hl, cbR_some]
  by_cases ha : inN a l
  · rw [bI_t ha, if_neg n10, p_ground2 x m hg, cbR_some]
    by_cases hx : inN x g
    · rw [bI_t hx, if_neg n10, p_ground2 y m hg, cbR_some]
      by_cases hy : inN y g
      · rw [bI_t hy, if_pos n10, hn, if_pos (⟨ha, hx, hy⟩ : inN a l ∧ inN x g ∧ inN y g)]
        by_cases h12 : n < 12
        · rw [if_pos ((ne12 hle).1.mpr h12), if_pos h12]
          unfold sX4_addPensioner
          simp only [bnd_eq, hn, if_neg (noob (i := n) (n := 12) (by omega) h12), nI_clamp (show n < 2 ^ 31 by omega), cbE_some]
          unfold addP8
          rw [show (st1 (st1 (st1 m 49 n a) 50 n x) 51 n y).1 5 3 = nI n from hn, nI_1]
        · rw [if_neg (fun q => h12 ((ne12 hle).1.mp q)), if_neg h12]
      · rw [bI_f hy, if_neg nn0, if_neg (fun q => hy q.2.2)]
    · rw [bI_f hx, if_pos rfl, if_neg (fun q => hx q.2.1)]
  · rw [bI_f ha, if_pos rfl, if_neg (fun q => ha q.1)]
theorem s9_served {m : pMem} {l g n : Nat} (hl : m.1 9 3 = nI l) (hg : m.1 9 0 = nI g) (hl31 : l ≤ 10) (hg31 : g ≤ 8) (hn : m.1 9 55 = nI n) (hle : n ≤ 12) (a x y : Int32) : sX9_served a x y m = some (if inN a l ∧ inN x g ∧ inN y g then (if n < 12 then (nI n, addP9 m n a x y) else (-5, m)) else (-2, m)) := by
  unfold sX9_served sX9_served_b24
  rw [p_land9 (by omega) a m hl, cbR_some]
  by_cases ha : inN a l
  · rw [bI_t ha, if_neg n10, p_ground9 (by omega) x m hg, cbR_some]
    by_cases hx : inN x g
    · rw [bI_t hx, if_neg n10, p_ground9 (by omega) y m hg, cbR_some]
      by_cases hy : inN y g
      · rw [bI_t hy, if_pos n10, hn, if_pos (⟨ha, hx, hy⟩ : inN a l ∧ inN x g ∧ inN y g)]
        by_cases h12 : n < 12
        · rw [if_pos (fun q => absurd ((ne12 hle).2.mp q) (by omega)), if_pos h12]
          have e1 : (st1 m 102 n a).1 9 55 = nI n := hn
          have e2 : (st1 (st1 m 102 n a) 103 n x).1 9 55 = nI n := hn
          have e3 : (st1 (st1 (st1 m 102 n a) 103 n x) 104 n y).1 9 55 = nI n := hn
          have hob := noob (i := n) (n := 12) (by omega) h12
          have hcl := nI_clamp (show n < 2 ^ 31 by omega)
          simp only [bnd_eq, if_neg hob, hcl, e1, e2, e3, nI_1]
          unfold addP9
          rw [show (st1 (st1 (st1 (st1 m 102 n a) 103 n x) 104 n y) 9 55 (nI (n + 1))).1 9 55 = nI (n + 1) from rfl, nI_pred]
        · rw [if_neg (not_not_intro ((ne12 hle).2.mpr (by omega))), if_neg h12]
      · rw [bI_f hy, if_neg nn0, if_neg (fun q => hy q.2.2)]
    · rw [bI_f hx, if_pos rfl, if_neg (fun q => hx q.2.1)]
  · rw [bI_f ha, if_pos rfl, if_neg (fun q => ha q.1)]
theorem q_served {m : pMem} (I : Inv m) (a x y : Int32) : ∃ r m1 m2, sX8_served a x y m = some (r, m1) ∧ sX9_served a x y m1 = some (r, m2) ∧ Inv m2 := by
  have I0 := I
  obtain ⟨c, g, l, p, w, v, d, t, n, b, h, hT, hP, hG⟩ := I
  rw [s8_served h.l3 h.g3 hG.n5 hG.nle]
  by_cases hv : inN a l ∧ inN x g ∧ inN y g
  · rw [if_pos hv]
    by_cases h12 : n < 12
    · rw [if_pos h12]
      refine ⟨_, _, _, rfl, (s9_served (m := addP8 m n a x y) h.l9 h.g9 h.lle h.gle hG.n9 hG.nle a x y).trans (by rw [if_pos hv, if_pos h12]), ?_⟩
      have h1 := (inN_iff (show l < 2 ^ 31 by have := h.lle; omega)).mp hv.1
      have h2 := (inN_iff (show g < 2 ^ 31 by have := h.gle; omega)).mp hv.2.1
      have h3 := (inN_iff (show g < 2 ^ 31 by have := h.gle; omega)).mp hv.2.2
      refine ⟨c, g, l, p, w, v, d, t, n + 1, b, h.congr ⟨rfl, rfl, rfl, rfl, rfl, rfl, rfl, rfl, rfl, rfl, rfl, rfl, rfl, rfl, rfl, rfl, rfl, rfl, rfl, rfl, rfl, rfl, rfl, rfl, rfl, rfl, rfl, rfl, rfl, rfl, rfl, fun j hj => by simp only [addP8, addP9, st1_1, mkM_1]; (repeat rw [if_neg (by omega)])⟩, hT.congr ⟨rfl, rfl, rfl, rfl, rfl, rfl⟩, hP.congr ⟨rfl, rfl, rfl, rfl, rfl, rfl, rfl, rfl, rfl, rfl, rfl, rfl, rfl, rfl, rfl, rfl, rfl, rfl, rfl, rfl, rfl, rfl, rfl, rfl, rfl, rfl, rfl, rfl, rfl, rfl, rfl, rfl, rfl, rfl, rfl, rfl⟩, hG.d9, hG.d2, hG.dle, hG.dl, hG.dsu, hG.dg, hG.dd, hG.dlr, hG.dsr, hG.dgr, hG.ddr, hG.lat, hG.t9, hG.t2, hG.tle, hG.tk, hG.tm, hG.tp, hG.tkr, hG.tmr, hG.tgr, rfl, rfl, by omega, ?_, ?_, ?_, ?_, ?_, ?_⟩
      · show upd (m.1 49) n a = upd (m.1 102) n a
        rw [hG.nl]
      · show upd (m.1 50) n x = upd (m.1 103) n x
        rw [hG.nb]
      · show upd (m.1 51) n y = upd (m.1 104) n y
        rw [hG.nw]
      · exact rg_up (P := fun z => ∃ k, k < l ∧ z = nI k) hG.nlr h1
      · exact rg_up (P := fun z => ∃ k, k < g ∧ z = nI k) hG.nbr h2
      · exact rg_up (P := fun z => ∃ k, k < g ∧ z = nI k) hG.nwr h3
    · rw [if_neg h12]
      exact ⟨_, _, _, rfl, (s9_served h.l9 h.g9 h.lle h.gle hG.n9 hG.nle a x y).trans (by rw [if_pos hv, if_neg h12]), I0⟩
  · rw [if_neg hv]
    exact ⟨_, _, _, rfl, (s9_served h.l9 h.g9 h.lle h.gle hG.n9 hG.nle a x y).trans (by rw [if_neg hv]), I0⟩
/-! words -/
theorem narZ {x : Int32} (h : x = 0 ∨ x = 1) : vp_nar .boolean x = x := by rcases h with rfl | rfl <;> decide
def addW8 (m : pMem) (w : Nat) (a x y z u : Int32) : pMem := st1 (st1 (st1 (st1 (st1 (st1 m 59 w a) 60 w x) 61 w y) 62 w z) 63 w u) 8 5 (nI (w + 1))
def addW9 (m : pMem) (w : Nat) (a x y z u : Int32) : pMem := st1 (st1 (st1 (st1 (st1 (st1 m 84 w a) 85 w x) 86 w u) 87 w y) 88 w z) 9 32 (nI (w + 1))
theorem s8_word {m : pMem} {l p w : Nat} (hl : m.1 3 6 = nI l) (hp : m.1 4 8 = nI p) (hw : m.1 8 5 = nI w) (hle : w ≤ 24) (a x y z u : Int32) (hy : y = 0 ∨ y = 1) (hz : z = 0 ∨ z = 1) : ∃ q, (inR u 0 999 → q ≤ 999 ∧ u = nI q) ∧ sX8_word a x y z u m = some (if inN a p ∧ inN x l then (if inR u 0 999 then (if w < 24 then (nI (w + 1), addW8 (mkM m q) w a x y z u) else (-5, m)) else (-3, m)) else (-2, m)) := by
  have hq : ∃ q, (inR u 0 999 → q ≤ 999 ∧ u = nI q) := by
    by_cases hu : inR u 0 999
    · obtain ⟨q, h1, h2⟩ := day_of hu
      exact ⟨q, fun _ => ⟨h1, h2⟩⟩
    · exact ⟨0, fun q => absurd q hu⟩
  obtain ⟨q, hq⟩ := hq
  refine ⟨q, hq, ?_⟩
  unfold sX8_word sX8_word_b22
  rw [p_pact3 a m hp, cbR_some]
  by_cases ha : inN a p
  · rw [bI_t ha, if_neg n10, p_land2 x m hl, cbR_some]
    by_cases hx : inN x l
    · rw [bI_t hx, if_pos n10, p_day8, cbR_some, if_pos (⟨ha, hx⟩ : inN a p ∧ inN x l)]
      by_cases hu : inR u 0 999
      · rw [bI_t hu, if_pos n10, hw, if_pos hu]
        by_cases h24 : w < 24
        · rw [if_pos ((ne24 hle).1.mpr h24), if_pos h24]
          obtain ⟨q1, rfl⟩ := hq hu
          rw [p_mark q1, cbE_some]
          unfold sX7_addWord
          have hob := noob (i := w) (n := 24) (by omega) h24
          have hcl := nI_clamp (show w < 2 ^ 31 by omega)
          have e0 : (mkM m q).1 8 5 = nI w := hw
          have e1 : (st1 (mkM m q) 59 w a).1 8 5 = nI w := hw
          have e2 : (st1 (st1 (mkM m q) 59 w a) 60 w x).1 8 5 = nI w := hw
          have e3 : (st1 (st1 (st1 (mkM m q) 59 w a) 60 w x) 61 w y).1 8 5 = nI w := hw
          have e4 : (st1 (st1 (st1 (st1 (mkM m q) 59 w a) 60 w x) 61 w y) 62 w z).1 8 5 = nI w := hw
          have e5 : (st1 (st1 (st1 (st1 (st1 (mkM m q) 59 w a) 60 w x) 61 w y) 62 w z) 63 w (nI q)).1 8 5 = nI w := hw
          simp only [bnd_eq, if_neg hob, hcl, e0, e1, e2, e3, e4, e5, narZ hy, narZ hz, nI_1, cbE_some]
          rfl
        · rw [if_neg (fun q => h24 ((ne24 hle).1.mp q)), if_neg h24]
      · rw [bI_f hu, if_neg nn0, if_neg hu]
    · rw [bI_f hx, if_neg nn0, if_neg (fun q => hx q.2)]
  · rw [bI_f ha, if_pos rfl, if_neg (fun q => ha q.1)]
theorem s9_word {m : pMem} {l p w : Nat} (hl : m.1 9 3 = nI l) (hp : m.1 9 26 = nI p) (hw : m.1 9 32 = nI w) (hl31 : l ≤ 10) (hp31 : p ≤ 12) (hle : w ≤ 24) (a x y z u : Int32) (hy : y = 0 ∨ y = 1) (hz : z = 0 ∨ z = 1) : sX9_word a x y z u m = some (if inN a p ∧ inN x l then (if inR u 0 999 then (if w < 24 then (nI (w + 1), addW9 m w a x y z u) else (-5, m)) else (-3, m)) else (-2, m)) := by
  unfold sX9_word sX9_word_b16
  rw [p_pact9 (by omega) a m hp, cbR_some]
  by_cases ha : inN a p
  · rw [bI_t ha, if_neg n10, p_land9 (by omega) x m hl, cbR_some]
    by_cases hx : inN x l
    · rw [bI_t hx, if_pos n10, p_day9, cbR_some, if_pos (⟨ha, hx⟩ : inN a p ∧ inN x l)]
      by_cases hu : inR u 0 999
      · rw [bI_t hu, if_pos n10, hw, if_pos hu]
        by_cases h24 : w < 24
        · rw [if_pos (fun q => absurd ((ne24 hle).2.mp q) (by omega)), if_pos h24]
          have hob := noob (i := w) (n := 24) (by omega) h24
          have hcl := nI_clamp (show w < 2 ^ 31 by omega)
          have e1 : (st1 m 84 w a).1 9 32 = nI w := hw
          have e2 : (st1 (st1 m 84 w a) 85 w x).1 9 32 = nI w := hw
          have e3 : (st1 (st1 (st1 m 84 w a) 85 w x) 86 w u).1 9 32 = nI w := hw
          have e4 : (st1 (st1 (st1 (st1 m 84 w a) 85 w x) 86 w u) 87 w y).1 9 32 = nI w := hw
          have e5 : (st1 (st1 (st1 (st1 (st1 m 84 w a) 85 w x) 86 w u) 87 w y) 88 w z).1 9 32 = nI w := hw
          simp only [bnd_eq, if_neg hob, hcl, e1, e2, e3, e4, e5, narZ hy, narZ hz, nI_1]
          rfl
        · rw [if_neg (not_not_intro ((ne24 hle).2.mpr (by omega))), if_neg h24]
      · rw [bI_f hu, if_neg nn0, if_neg hu]
    · rw [bI_f hx, if_neg nn0, if_neg (fun q => hx q.2)]
  · rw [bI_f ha, if_pos rfl, if_neg (fun q => ha q.1)]
theorem q_word {m : pMem} (I : Inv m) (a x y z u : Int32) (hy : y = 0 ∨ y = 1) (hz : z = 0 ∨ z = 1) : ∃ r m1 m2, sX8_word a x y z u m = some (r, m1) ∧ sX9_word a x y z u m1 = some (r, m2) ∧ Inv m2 := by
  have I0 := I
  obtain ⟨c, g, l, p, w, v, d, t, n, b, h, hT, hP, hG⟩ := I
  obtain ⟨q, hq, e⟩ := s8_word h.l3 hP.p4 hP.w8 hP.wle a x y z u hy hz
  rw [e]
  have e9 := s9_word h.l9 hP.p9 hP.w9 h.lle hP.ple hP.wle a x y z u hy hz
  by_cases hv : inN a p ∧ inN x l
  · rw [if_pos hv]
    rw [if_pos hv] at e9
    by_cases hu : inR u 0 999
    · rw [if_pos hu]
      rw [if_pos hu] at e9
      by_cases h24 : w < 24
      · rw [if_pos h24]
        obtain ⟨hq1, rfl⟩ := hq hu
        refine ⟨_, _, _, rfl, (s9_word (m := addW8 (mkM m q) w a x y z (nI q)) h.l9 hP.p9 hP.w9 h.lle hP.ple hP.wle a x y z (nI q) hy hz).trans (by rw [if_pos hv, if_pos hu, if_pos h24]), ?_⟩
        have h1 := (inN_iff (show p < 2 ^ 31 by have := hP.ple; omega)).mp hv.1
        have h2 := (inN_iff (show l < 2 ^ 31 by have := h.lle; omega)).mp hv.2
        refine ⟨c, g, l, p, w + 1, v, d, t, n, b, h.congr ⟨rfl, rfl, rfl, rfl, rfl, rfl, rfl, rfl, rfl, rfl, rfl, rfl, rfl, rfl, rfl, rfl, rfl, rfl, rfl, rfl, rfl, rfl, rfl, rfl, rfl, rfl, rfl, rfl, rfl, rfl, rfl, fun j hj => by simp only [addW8, addW9, st1_1, mkM_1]; (repeat rw [if_neg (by omega)])⟩, hT.congr ⟨rfl, rfl, rfl, rfl, rfl, rfl⟩, ?_, hG.congr ⟨rfl, rfl, rfl, rfl, rfl, rfl, rfl, rfl, rfl, rfl, rfl, rfl, rfl, rfl, rfl, rfl, rfl, rfl, rfl, rfl, rfl, rfl, rfl, rfl, rfl, rfl, rfl⟩⟩
        refine ⟨hP.p9, hP.p4, hP.ple, hP.knd, hP.sgn, hP.day, hP.plc, hP.kr, hP.lr, hP.gr, hP.dr, hP.lat, rfl, rfl, by omega, ?_, ?_, ?_, ?_, ?_, ?_, ?_, ?_, ?_, ?_, hP.v9, hP.v7, hP.vle, hP.vt, hP.vl, hP.vy, hP.vd, hP.vtr, hP.vlr, hP.vyr, hP.vdr, hP.lft, fun j hj k hk e => mkM_mk (hP.mc j hj k hk e), fun j hj k hk e => mkM_mk (hP.mp j hj k hk e), ?_, fun j hj k hk e => mkM_mk (hP.mv j hj k hk e)⟩
        · show upd (m.1 59) w a = upd (m.1 84) w a
          rw [hP.wp]
        · show upd (m.1 60) w x = upd (m.1 85) w x
          rw [hP.wl]
        · show upd (m.1 61) w y = upd (m.1 87) w y
          rw [hP.wt]
        · show upd (m.1 62) w z = upd (m.1 88) w z
          rw [hP.wy]
        · show upd (m.1 63) w (nI q) = upd (m.1 86) w (nI q)
          rw [hP.wd]
        · exact rg_up (P := fun z => ∃ k, k < p ∧ z = nI k) hP.wpr h1
        · exact rg_up (P := fun z => ∃ k, k < l ∧ z = nI k) hP.wlr h2
        · exact rg_up (P := fun z => z = 0 ∨ z = 1) hP.wtr hy
        · exact rg_up (P := fun z => z = 0 ∨ z = 1) hP.wyr hz
        · exact rg_up (P := fun z => ∃ k, k ≤ 999 ∧ z = nI k) hP.wdr ⟨q, hq1, rfl⟩
        · exact rg_up (P := fun z => ∀ k, k ≤ 999 → z = nI k → mkd (mkM m q) k) (fun i hi k hk e => mkM_mk (hP.mw i hi k hk e)) (fun k hk e => by
            have := nI_inj (by omega) (by omega) e
            subst this
            exact mkM_self m q)
      · rw [if_neg h24]
        rw [if_neg h24] at e9
        exact ⟨_, _, _, rfl, e9, I0⟩
    · rw [if_neg hu]
      rw [if_neg hu] at e9
      exact ⟨_, _, _, rfl, e9, I0⟩
  · rw [if_neg hv]
    rw [if_neg hv] at e9
    exact ⟨_, _, _, rfl, e9, I0⟩
/-! voices -/
def addV8 (m : pMem) (v : Nat) (a x y u : Int32) : pMem := st1 (st1 (st1 (st1 (st1 m 55 v a) 56 v x) 57 v y) 58 v u) 7 4 (nI (v + 1))
def addV9 (m : pMem) (v : Nat) (a x y u : Int32) : pMem := st1 (st1 (st1 (st1 (st1 m 89 v a) 90 v x) 91 v u) 92 v y) 9 39 (nI (v + 1))
theorem s8_voice {m : pMem} {l v : Nat} (hl : m.1 3 6 = nI l) (hw : m.1 7 4 = nI v) (hle : v ≤ 24) (a x y u : Int32) (hy : y = 0 ∨ y = 1) : ∃ q, (inR u 0 999 → q ≤ 999 ∧ u = nI q) ∧ sX8_voice a x y u m = some (if inR a 0 5 ∧ inN x l then (if inR u 0 999 then (if v < 24 then (nI (v + 1), addV8 (mkM m q) v a x y u) else (-5, m)) else (-3, m)) else (-2, m)) := by
  have hq : ∃ q, (inR u 0 999 → q ≤ 999 ∧ u = nI q) := by
    by_cases hu : inR u 0 999
    · obtain ⟨q, h1, h2⟩ := day_of hu
      exact ⟨q, fun _ => ⟨h1, h2⟩⟩
    · exact ⟨0, fun q => absurd q hu⟩
  obtain ⟨q, hq⟩ := hq
  refine ⟨q, hq, ?_⟩
  unfold sX8_voice sX8_voice_b18
  rw [p_third8, cbR_some]
  by_cases ha : inR a 0 5
  · rw [bI_t ha, if_neg n10, p_land2 x m hl, cbR_some]
    by_cases hx : inN x l
    · rw [bI_t hx, if_pos n10, p_day8, cbR_some, if_pos (⟨ha, hx⟩ : inR a 0 5 ∧ inN x l)]
      by_cases hu : inR u 0 999
      · rw [bI_t hu, if_pos n10, hw, if_pos hu]
        by_cases h24 : v < 24
        · rw [if_pos ((ne24 hle).1.mpr h24), if_pos h24]
          obtain ⟨q1, rfl⟩ := hq hu
          rw [p_mark q1, cbE_some]
          unfold sX6_addVoice
          have hob := noob (i := v) (n := 24) (by omega) h24
          have hcl := nI_clamp (show v < 2 ^ 31 by omega)
          have e0 : (mkM m q).1 7 4 = nI v := hw
          have e1 : (st1 (mkM m q) 55 v a).1 7 4 = nI v := hw
          have e2 : (st1 (st1 (mkM m q) 55 v a) 56 v x).1 7 4 = nI v := hw
          have e3 : (st1 (st1 (st1 (mkM m q) 55 v a) 56 v x) 57 v y).1 7 4 = nI v := hw
          have e4 : (st1 (st1 (st1 (st1 (mkM m q) 55 v a) 56 v x) 57 v y) 58 v (nI q)).1 7 4 = nI v := hw
          simp only [bnd_eq, if_neg hob, hcl, e0, e1, e2, e3, e4, narZ hy, nI_1, cbE_some]
          rfl
        · rw [if_neg (fun q => h24 ((ne24 hle).1.mp q)), if_neg h24]
      · rw [bI_f hu, if_neg nn0, if_neg hu]
    · rw [bI_f hx, if_neg nn0, if_neg (fun q => hx q.2)]
  · rw [bI_f ha, if_pos rfl, if_neg (fun q => ha q.1)]
theorem s9_voice {m : pMem} {l v : Nat} (hl : m.1 9 3 = nI l) (hw : m.1 9 39 = nI v) (hl31 : l ≤ 10) (hle : v ≤ 24) (a x y u : Int32) (hy : y = 0 ∨ y = 1) : sX9_voice a x y u m = some (if inR a 0 5 ∧ inN x l then (if inR u 0 999 then (if v < 24 then (nI (v + 1), addV9 m v a x y u) else (-5, m)) else (-3, m)) else (-2, m)) := by
  unfold sX9_voice sX9_voice_b15
  rw [p_third9, cbR_some]
  by_cases ha : inR a 0 5
  · rw [bI_t ha, if_neg n10, p_land9 (by omega) x m hl, cbR_some]
    by_cases hx : inN x l
    · rw [bI_t hx, if_pos n10, p_day9, cbR_some, if_pos (⟨ha, hx⟩ : inR a 0 5 ∧ inN x l)]
      by_cases hu : inR u 0 999
      · rw [bI_t hu, if_pos n10, hw, if_pos hu]
        by_cases h24 : v < 24
        · rw [if_pos (fun q => absurd ((ne24 hle).2.mp q) (by omega)), if_pos h24]
          have hob := noob (i := v) (n := 24) (by omega) h24
          have hcl := nI_clamp (show v < 2 ^ 31 by omega)
          have e1 : (st1 m 89 v a).1 9 39 = nI v := hw
          have e2 : (st1 (st1 m 89 v a) 90 v x).1 9 39 = nI v := hw
          have e3 : (st1 (st1 (st1 m 89 v a) 90 v x) 91 v u).1 9 39 = nI v := hw
          have e4 : (st1 (st1 (st1 (st1 m 89 v a) 90 v x) 91 v u) 92 v y).1 9 39 = nI v := hw
          simp only [bnd_eq, if_neg hob, hcl, e1, e2, e3, e4, narZ hy, nI_1]
          rfl
        · rw [if_neg (not_not_intro ((ne24 hle).2.mpr (by omega))), if_neg h24]
      · rw [bI_f hu, if_neg nn0, if_neg hu]
    · rw [bI_f hx, if_neg nn0, if_neg (fun q => hx q.2)]
  · rw [bI_f ha, if_pos rfl, if_neg (fun q => ha q.1)]
theorem q_voice {m : pMem} (I : Inv m) (a x y u : Int32) (hy : y = 0 ∨ y = 1) : ∃ r m1 m2, sX8_voice a x y u m = some (r, m1) ∧ sX9_voice a x y u m1 = some (r, m2) ∧ Inv m2 := by
  have I0 := I
  obtain ⟨c, g, l, p, w, v, d, t, n, b, h, hT, hP, hG⟩ := I
  obtain ⟨q, hq, e⟩ := s8_voice h.l3 hP.v7 hP.vle a x y u hy
  rw [e]
  have e9 := s9_voice h.l9 hP.v9 h.lle hP.vle a x y u hy
  by_cases hv : inR a 0 5 ∧ inN x l
  · rw [if_pos hv]
    rw [if_pos hv] at e9
    by_cases hu : inR u 0 999
    · rw [if_pos hu]
      rw [if_pos hu] at e9
      by_cases h24 : v < 24
      · rw [if_pos h24]
        obtain ⟨hq1, rfl⟩ := hq hu
        refine ⟨_, _, _, rfl, (s9_voice (m := addV8 (mkM m q) v a x y (nI q)) h.l9 hP.v9 h.lle hP.vle a x y (nI q) hy).trans (by rw [if_pos hv, if_pos hu, if_pos h24]), ?_⟩
        have h1 : ∃ k, k < 6 ∧ a = nI k := by
          obtain ⟨k, hk, e⟩ := inR_nat (n := 5) (by decide) hv.1
          exact ⟨k, by omega, e⟩
        have h2 := (inN_iff (show l < 2 ^ 31 by have := h.lle; omega)).mp hv.2
        refine ⟨c, g, l, p, w, v + 1, d, t, n, b, h.congr ⟨rfl, rfl, rfl, rfl, rfl, rfl, rfl, rfl, rfl, rfl, rfl, rfl, rfl, rfl, rfl, rfl, rfl, rfl, rfl, rfl, rfl, rfl, rfl, rfl, rfl, rfl, rfl, rfl, rfl, rfl, rfl, fun j hj => by simp only [addV8, addV9, st1_1, mkM_1]; (repeat rw [if_neg (by omega)])⟩, hT.congr ⟨rfl, rfl, rfl, rfl, rfl, rfl⟩, ?_, hG.congr ⟨rfl, rfl, rfl, rfl, rfl, rfl, rfl, rfl, rfl, rfl, rfl, rfl, rfl, rfl, rfl, rfl, rfl, rfl, rfl, rfl, rfl, rfl, rfl, rfl, rfl, rfl, rfl⟩⟩
        refine ⟨hP.p9, hP.p4, hP.ple, hP.knd, hP.sgn, hP.day, hP.plc, hP.kr, hP.lr, hP.gr, hP.dr, hP.lat, hP.w9, hP.w8, hP.wle, hP.wp, hP.wl, hP.wt, hP.wy, hP.wd, hP.wpr, hP.wlr, hP.wtr, hP.wyr, hP.wdr, rfl, rfl, by omega, ?_, ?_, ?_, ?_, ?_, ?_, ?_, ?_, hP.lft, fun j hj k hk e => mkM_mk (hP.mc j hj k hk e), fun j hj k hk e => mkM_mk (hP.mp j hj k hk e), fun j hj k hk e => mkM_mk (hP.mw j hj k hk e), ?_⟩
        · show upd (m.1 55) v a = upd (m.1 89) v a
          rw [hP.vt]
        · show upd (m.1 56) v x = upd (m.1 90) v x
          rw [hP.vl]
        · show upd (m.1 57) v y = upd (m.1 92) v y
          rw [hP.vy]
        · show upd (m.1 58) v (nI q) = upd (m.1 91) v (nI q)
          rw [hP.vd]
        · exact rg_up (P := fun z => ∃ k, k < 6 ∧ z = nI k) hP.vtr h1
        · exact rg_up (P := fun z => ∃ k, k < l ∧ z = nI k) hP.vlr h2
        · exact rg_up (P := fun z => z = 0 ∨ z = 1) hP.vyr hy
        · exact rg_up (P := fun z => ∃ k, k ≤ 999 ∧ z = nI k) hP.vdr ⟨q, hq1, rfl⟩
        · exact rg_up (P := fun z => ∀ k, k ≤ 999 → z = nI k → mkd (mkM m q) k) (fun i hi k hk e => mkM_mk (hP.mv i hi k hk e)) (fun k hk e => by
            have := nI_inj (by omega) (by omega) e
            subst this
            exact mkM_self m q)
      · rw [if_neg h24]
        rw [if_neg h24] at e9
        exact ⟨_, _, _, rfl, e9, I0⟩
    · rw [if_neg hu]
      rw [if_neg hu] at e9
      exact ⟨_, _, _, rfl, e9, I0⟩
  · rw [if_neg hv]
    rw [if_neg hv] at e9
    exact ⟨_, _, _, rfl, e9, I0⟩
