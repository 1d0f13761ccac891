/-! who is bound: both sides -/
theorem tM_id (m : pMem) : tM m (m.1 4 10) (m.1 4 11) = m := by
  refine Prod.ext (funext fun k => ?_) rfl
  by_cases hk : k = 4
  · subst hk
    funext j
    rw [tM_4]
    by_cases h1 : j = 10
    · rw [if_pos h1, h1]
    · rw [if_neg h1]
      by_cases h2 : j = 11
      · rw [if_pos h2, h2]
      · rw [if_neg h2]
  · exact tM_k _ _ _ hk
section BO
variable {m : pMem} {c g l p w v b : Nat}
theorem IQ.dy (hP : IQ m c g l p w v) : ∀ i, i < w → ¬ m.1 86 i < 0 := fun i hi => by
  obtain ⟨k, hk, e⟩ := hP.wdr i hi
  rw [e]
  exact nI_pos (by omega)
theorem p_boundOn (h : IH m c g l) (hT : IT m b) (hP : IQ m c g l p w v) {i d : Nat} (hi : i < p) (hd : d ≤ 999) (out : Int32) : ∃ x y, sX3_boundOn (nI i) (nI d) out m = some (bS m c l w v i (nI d) out, tM m x y) := by
  have hp := hP.ple
  have hc := h.cle
  have hl := h.lle
  have hcd := h.cle' (nI d)
  obtain ⟨s, hs, es⟩ := hP.dr i hi
  obtain ⟨k, hk, ek⟩ := hP.kr i hi
  unfold sX3_boundOn sX3_boundOn_b76 sX3_boundOn_b100 bS
  rw [hP.knd, hP.day, h.changesBy, cbR_some]
  simp only [if_neg (noob (i := i) (n := 12) (by omega) (by omega)), nI_clamp (show i < 2 ^ 31 by omega)]
  by_cases a0 : nI d < m.1 83 i
  · rw [if_neg (Int32.not_le.mpr a0), if_pos a0]
    exact ⟨m.1 4 10, m.1 4 11, by rw [tM_id]⟩
  · have hsd : s ≤ d := by
      rcases Nat.lt_or_ge d s with z | z
      · exact absurd (by rw [es]; exact nI_lt z (by omega)) a0
      · exact z
    rw [if_pos (Int32.not_lt.mp a0), if_neg a0]
    rcases (show k = 0 ∨ k = 1 ∨ k = 2 by omega) with rfl | rfl | rfl
    · have k0 : m.1 79 i = 0 := ek
      rw [if_pos (show ¬ m.1 79 i = 2 by rw [k0]; decide), if_pos (show ¬ m.1 79 i = 1 by rw [k0]; decide), if_pos k0]
      obtain ⟨gk, hgk, egk⟩ := hP.gr i hi k0
      obtain ⟨q, hq, e1, e2, e3⟩ := h.ownerOf hcd hgk
      have hg := h.gle
      rw [hP.plc i hi k0, egk, e3, cbR_some, h.isThere2 hcd, cbR_some, bI_t ((h.isT hq _).mpr e2), if_neg n10, nv_nI (by omega), e1]
      exact ⟨m.1 4 10, m.1 4 11, by rw [tM_id]⟩
    · have k1 : m.1 79 i = 1 := ek
      rw [if_pos (show ¬ m.1 79 i = 2 by rw [k1]; decide), if_neg (not_not_intro k1), if_neg (show ¬ m.1 79 i = 0 by rw [k1]; decide), if_pos k1]
      obtain ⟨r, er, hr, y1, y2⟩ := q_rank h hP hcd hi (nI d)
      rw [y1, cbR_some, h.isThere2 hcd, cbR_some, ← er]
      by_cases z : bt (m.1 75 (IHc m c (nI d))) r = true
      · rw [bI_t ((h.isT hr _).mpr z), if_neg n10, if_pos z]
        exact ⟨m.1 4 10, m.1 4 11, by rw [tM_id]⟩
      · rw [bI_f (fun y => z ((h.isT hr _).mp y)), if_pos rfl, if_neg z]
        exact ⟨m.1 4 10, m.1 4 11, by rw [tM_id]⟩
    · have k2 : m.1 79 i = 2 := ek
      rw [if_neg (not_not_intro k2), if_neg (show ¬ m.1 79 i = 0 by rw [k2]; decide), if_neg (show ¬ m.1 79 i = 1 by rw [k2]; decide)]
      obtain ⟨x, y, e⟩ := p_boundByTrade h hP.wle hP.w8 hP.wp hP.wl hP.wt hP.wd hP.wy hT.rul hP.sgn (show i < 12 by omega) es hP.day hsd hd out
      exact ⟨x, y, by rw [e, cbE_some]⟩
theorem p_boundOf (h : IH m c g l) (hP : IQ m c g l p w v) {i d : Nat} (hi : i < p) (hd : d ≤ 999) {out : Int32} (ho : m.1 9 38 = out) : ∃ F : Nat → Int32, sX9_boundOf (nI i) (nI d) m = some (bS m c l w v i (nI d) out, up1 m 93 F) := by
  have hp := hP.ple
  have hc := h.cle
  have hl := h.lle
  have hcd := h.cle' (nI d)
  obtain ⟨s, hs, es⟩ := hP.dr i hi
  obtain ⟨k, hk, ek⟩ := hP.kr i hi
  unfold sX9_boundOf sX9_boundOf_b75 bS
  rw [h.doneBy, cbR_some]
  simp only [if_neg (noob (i := i) (n := 12) (by omega) (by omega)), nI_clamp (show i < 2 ^ 31 by omega)]
  by_cases a0 : nI d < m.1 83 i
  · rw [if_neg (Int32.not_le.mpr a0), if_pos a0]
    exact ⟨m.1 93, by rw [up93_id]⟩
  · rw [if_pos (Int32.not_lt.mp a0), if_neg a0]
    rcases (show k = 0 ∨ k = 1 ∨ k = 2 by omega) with rfl | rfl | rfl
    · have k0 : m.1 79 i = 0 := ek
      obtain ⟨gk, hgk, egk⟩ := hP.gr i hi k0
      have hg := h.gle
      rw [if_neg (not_not_intro k0), if_pos k0, egk, nv_nI (by omega), show (8 : Int32) * nI (IHc m c (nI d)) + nI gk = nI (8 * IHc m c (nI d) + gk) from by rw [show (8 : Int32) = nI 8 from rfl, nI_mul, nI_add], if_neg (noob (by omega) (by omega)), nI_clamp (by omega)]
      exact ⟨m.1 93, by rw [up93_id]⟩
    · have k1 : m.1 79 i = 1 := ek
      obtain ⟨r, er, hr, y1, y2⟩ := q_rank h hP hcd hi (nI d)
      rw [if_pos (show ¬ m.1 79 i = 0 by rw [k1]; decide), if_neg (not_not_intro k1), if_neg (show ¬ m.1 79 i = 0 by rw [k1]; decide), if_pos k1, y2, cbR_some, ← er]
      exact ⟨m.1 93, by rw [up93_id]⟩
    · have k2 : m.1 79 i = 2 := ek
      obtain ⟨F, e⟩ := p_byTrade h hP.wle hP.w9 ho (show i < 12 by omega) hP.dy hcd (show nI d < 1000 from nI_lt (b := 1000) (by omega) (by decide))
      rw [if_pos (show ¬ m.1 79 i = 0 by rw [k2]; decide), if_pos (show ¬ m.1 79 i = 1 by rw [k2]; decide), if_neg (show ¬ m.1 79 i = 0 by rw [k2]; decide), if_neg (show ¬ m.1 79 i = 1 by rw [k2]; decide), e, cbE_some]
      exact ⟨F, rfl⟩
variable {μ : pMem}
theorem k_on (h : IH m c g l) (hT : IT m b) (hP : IQ m c g l p w v) (f : fr m μ) {i d : Nat} (hi : i < p) (hd : d ≤ 999) (out : Int32) : ∃ μ', sX3_boundOn (nI i) (nI d) out μ = some (bS m c l w v i (nI d) out, μ') ∧ fr m μ' ∧ ∀ k, k ≠ 4 → μ'.1 k = μ.1 k := by
  obtain ⟨x, y, e⟩ := p_boundOn (f.H h) (f.T hT) (f.Q hP) hi hd out
  refine ⟨tM μ x y, ?_, f.tr (fr.tM μ x y), fun k hk => tM_k μ x y hk⟩
  rw [e, bS_c f.toB]
theorem k_of (h : IH m c g l) (hP : IQ m c g l p w v) (f : fr m μ) {i d : Nat} (hi : i < p) (hd : d ≤ 999) {out : Int32} (ho : μ.1 9 38 = out) : ∃ μ', sX9_boundOf (nI i) (nI d) μ = some (bS m c l w v i (nI d) out, μ') ∧ fr m μ' ∧ ∀ k, k ≠ 93 → μ'.1 k = μ.1 k := by
  obtain ⟨F, e⟩ := p_boundOf (f.H h) (f.Q hP) hi hd ho
  refine ⟨up1 μ 93 F, ?_, f.tr (fr.up μ F (by omega)), fun k hk => by rw [up1_1, if_neg hk]⟩
  rw [e, bS_c f.toB]
/-- lands that have not come are not bound -/
theorem trS_hi {W : Nat → Int32} {i C : Nat} {d out : Int32} : ∀ {n : Nat}, n ≤ 10 → ∀ x, n ≤ x → x < 32 → bt (trS m w W i d out C n) x = false
  | 0, _, x, _, _ => b_0 x
  | n + 1, hn, x, h1, h2 => by
    rw [trS_s, b_or, trS_hi (by omega) x (by omega) h2, Bool.false_or]
    by_cases z : bt (m.1 75 C) n = true ∧ bnB m w W i n d out C (d + 1)
    · rw [if_pos z, b_one n (by omega) h2]
      exact decide_eq_false (by omega)
    · rw [if_neg z, b_0]
theorem bS_hi (h : IH m c g l) (hP : IQ m c g l p w v) {i : Nat} (hi : i < p) (d out : Int32) {x : Nat} (h1 : l ≤ x) (h2 : x < 32) : bt (bS m c l w v i d out) x = false := by
  have hl := h.lle
  have hcd := h.cle' d
  unfold bS
  by_cases a0 : d < m.1 83 i
  · rw [if_pos a0, b_0]
  · rw [if_neg a0]
    by_cases k0 : m.1 79 i = 0
    · rw [if_pos k0]
      obtain ⟨gk, hgk, egk⟩ := hP.gr i hi k0
      obtain ⟨q, hq, e1, e2, e3⟩ := h.ownerOf hcd hgk
      have hg := h.gle
      rw [egk, nv_nI (by omega), e1, b_one q (by omega) h2]
      exact decide_eq_false (by omega)
    · rw [if_neg k0]
      by_cases k1 : m.1 79 i = 1
      · rw [if_pos k1]
        obtain ⟨r, er, hr, y1, y2⟩ := q_rank h hP hcd hi d
        rw [← er]
        by_cases z : bt (m.1 75 (IHc m c d)) r = true
        · rw [if_pos z, b_one r (by omega) h2]
          exact decide_eq_false (by omega)
        · rw [if_neg z, b_0]
      · rw [if_neg k1]
        exact trS_hi hl x h1 h2
end BO
theorem q_bound {m : pMem} (I : Inv m) (a x : Int32) : ∃ r m1 m2, sX8_bound a x m = some (r, m1) ∧ sX9_bound a x m1 = some (r, m2) ∧ Inv m2 := by
  have I0 := I
  obtain ⟨c, g, l, p, w, v, d, t, n, b, h, hT, hP, hG⟩ := I
  have hp := hP.ple
  have hQ := hP.toQ
  unfold sX8_bound sX9_bound sX9_bound_b29
  by_cases ha : inN a p
  · obtain ⟨i, hi, rfl⟩ := (inN_iff (show p < 2 ^ 31 by omega)).mp ha
    by_cases hd : inR x 0 999
    · obtain ⟨k, hk, rfl⟩ := day_of hd
      obtain ⟨μ, e1, f1, s1⟩ := k_on h hT hQ (fr.rf m) hi hk 0
      have l1 : μ.1 9 38 = 0 := by rw [s1 9 (by omega)]; exact hP.lft
      obtain ⟨ν, e2, f2, s2⟩ := k_of h hQ f1 hi hk l1
      refine ⟨bS m c l w v i (nI k) 0, μ, ν, ?_, ?_, inv_fr I0 f2 (by rw [s2 9 (by omega)]; exact l1)⟩
      · rw [p_pact3 (nI i) m hP.p4, cbR_some, bI_t ha, if_pos n10, p_day8, cbR_some, bI_t hd, if_pos n10, e1, cbE_some]
      · rw [p_pact9 (show p < 2 ^ 31 by omega) (nI i) μ (f1.Q hQ).p9, cbR_some, bI_t ha, if_pos n10, p_day9, cbR_some, bI_t hd, if_neg n10, e2, cbE_some]
    · refine ⟨-3, m, m, ?_, ?_, I0⟩
      · rw [p_pact3 (nI i) m hP.p4, cbR_some, bI_t ha, if_pos n10, p_day8, cbR_some, bI_f hd, if_neg nn0]
      · rw [p_pact9 (show p < 2 ^ 31 by omega) (nI i) m hP.p9, cbR_some, bI_t ha, if_pos n10, p_day9, cbR_some, bI_f hd, if_pos rfl]
  · refine ⟨-2, m, m, ?_, ?_, I0⟩
    · rw [p_pact3 a m hP.p4, cbR_some, bI_f ha, if_neg nn0]
    · rw [p_pact9 (show p < 2 ^ 31 by omega) a m hP.p9, cbR_some, bI_f ha, if_neg nn0]
