/-! the other side turns down the same -/
/-- the other side's cells are as they were -/
def same9 (m m1 : pMem) : Prop := m1.1 9 = m.1 9 ∧ ∀ k, 64 ≤ k → k < 106 → m1.1 k = m.1 k
theorem q_some9 {m : pMem} {c g : Nat} (hg : g ≤ 8) (hc : c ≤ 12) (h0 : m.1 9 0 = nI g) (h6 : m.1 9 6 = nI c) {a : Int32} (s : Int32) : sX9_isSome s a m = some (bI (someOf (gof (m.1 74) a c g) s)) := by
  unfold sX9_isSome sX9_isSome_b31 sX9_isSome_b32
  rw [h6, p_groundsOf hg hc h0, cbR_some, nar0, nar1]
  by_cases h3 : s &&& (gof (m.1 74) a c g ^^^ (-1 : Int32)) = 0
  · have hs : ¬ s < 0 := fun z => by
      have := (gof_in hg h3 (by omega) ((lt0_b s).mp z)).1
      omega
    by_cases h1 : s = 0
    · rw [if_pos (by rw [h1]; decide), bI_f (fun z => z.1 h1)]
    · rw [if_neg (fun z => h1 (Int32.le_antisymm z (Int32.not_lt.mp hs))), if_neg (not_not_intro h3)]
      by_cases h2 : s = gof (m.1 74) a c g
      · rw [if_pos h2, bI_f (fun z => z.2.1 h2)]
      · rw [if_neg h2, bI_t ⟨h1, h2, h3⟩]
  · rw [bI_f (fun z => h3 z.2.2)]
    by_cases h1 : s ≤ 0
    · rw [if_pos h1]
    · rw [if_neg h1, if_pos h3]
def cB9 (m : pMem) (c l : Nat) (k u a b s : Int32) : pMem := st1 (st1 (st1 (st1 (st1 (st1 m 68 c k) 69 c u) 70 c a) 71 c b) 72 c s) 73 c (nI l)
theorem s9_chg {m m1 : pMem} {c g l p d : Nat} (h : IH m c g l) (hs : same9 m m1) (hpl : p ≤ 12) (hp : m.1 9 26 = nI p) (hdl : d ≤ 8) (hd : m.1 9 46 = nI d) (k u a b s : Int32) : sX9_change k u a b s m1 = if cRef m c g l p d k u a b s = 0 then sX9_change_l263 5000 k u a b s (nI (come k)) (nI l) (cB9 m1 c l k u a b s) else some (cRef m c g l p d k u a b s, m1) := by
  have hc := h.cle
  have hl := h.lle
  have hg := h.gle
  have c9 : m1.1 9 6 = nI c := by rw [hs.1]; exact h.c9
  have l9 : m1.1 9 3 = nI l := by rw [hs.1]; exact h.l9
  have g9 : m1.1 9 0 = nI g := by rw [hs.1]; exact h.g9
  have p9 : m1.1 9 26 = nI p := by rw [hs.1]; exact hp
  have d9 : m1.1 9 46 = nI d := by rw [hs.1]; exact hd
  have e66 := hs.2 66 (by omega) (by omega)
  have e69 := hs.2 69 (by omega) (by omega)
  have e74 := hs.2 74 (by omega) (by omega)
  have e75 := hs.2 75 (by omega) (by omega)
  have e83 := hs.2 83 (by omega) (by omega)
  have e98 := hs.2 98 (by omega) (by omega)
  have th : ∀ x, sX9_isThere x (nI c) m1 = some (bI (isTh (m.1 75 c) x l)) := by
    intro x
    rw [p_isThere9 (n := l) hl hc (fun i h1 h2 => by rw [e75]; exact h.tzf (Nat.le_refl _) h2 (by have := h.ll; omega)) x, e75]
  generalize hR : cRef m c g l p d k u a b s = R
  generalize hX : sX9_change_l263 5000 k u a b s (nI (come k)) (nI l) (cB9 m1 c l k u a b s) = X
  unfold cRef at hR
  unfold sX9_change sX9_change_b46
  rw [p_in, cbR_some]
  by_cases h1 : inR k 0 4
  · rw [bI_t h1, if_neg n10, p_day9, cbR_some]
    rw [if_neg (not_not_intro h1)] at hR
    by_cases hu : inR u 0 999
    · rw [bI_t hu, if_neg n10, c9]
      have late : (c = 0 ∨ ¬ u < m.1 69 (c - 1)) → sX9_change_b38 k u a b s m1 = if R = 0 then X else some (R, m1) := by
        intro hday
        unfold sX9_change_b38 sX9_change_b46 sX9_change_b59
        have hL : sX9_isLate u m1 = some (bI (¬ u ≤ mxF (m.1 83) p ∧ ¬ u ≤ mxF (m.1 98) d)) := by
          have z := l_late1 (m := m1) hdl d9 hpl p9 hu.1 p 0 5000 (by omega) (by omega) 1 (bI_t (mxF_z hu.1)).symm
          rw [e83, e98] at z
          exact z
        rw [hL, cbR_some]
        by_cases h2 : ¬ u ≤ mxF (m.1 83) p ∧ ¬ u ≤ mxF (m.1 98) d
        · rw [bI_t h2, if_pos n10]
          rw [if_neg (not_not_intro (show cDay m c p d u from ⟨hu, hday, h2.1, h2.2⟩))] at hR
          have step : ∀ t0 : Int32, (t0 = 0 ↔ ¬ (k = 2 ∨ k = 3)) → sX9_change_b64 k u a b s t0 m1 = if R = 0 then X else some (R, m1) := by
            intro t0 ht
            unfold sX9_change_b64 sX9_change_b96
            rw [c9, th, cbR_some]
            by_cases h3 : isTh (m.1 75 c) a l
            · rw [bI_t h3, if_neg n10]
              rw [if_neg (not_not_intro h3)] at hR
              obtain ⟨a', ha', rfl⟩ := (inN_iff (show l < 2 ^ 31 by omega)).mp h3.1
              rw [nv_nI (by omega)] at hR
              have fin : ¬ (k = 4 ∧ m.1 66 a' = -1) → (if k = 4 ∧ m.1 66 a' = -1 then (-4 : Int32) else if 12 ≤ c then -5 else if l + come k ≤ 10 then 0 else -5) = R → sX9_change_b148 k u (nI a') b s m1 = if R = 0 then X else some (R, m1) := by
                intro e1 hR
                rw [if_neg e1] at hR
                have tail : sX9_change_b166 k u (nI a') b s (nI (come k)) m1 = if R = 0 then X else some (R, m1) := by
                  unfold sX9_change_b166 sX9_change_b189
                  rw [c9]
                  by_cases e2 : 12 ≤ c
                  · rw [if_pos ((eq_12 hc).mpr e2)]
                    rw [if_pos e2] at hR
                    subst hR
                    rw [if_neg m5n0]
                  · rw [if_neg (fun z => e2 ((eq_12 hc).mp z))]
                    rw [if_neg e2] at hR
                    have hcm := come_le k
                    rw [l9, nI_add]
                    by_cases e3 : l + come k ≤ 10
                    · rw [if_pos ((le_10 (by omega)).mpr e3)]
                      rw [if_pos e3] at hR
                      subst hR
                      rw [if_pos rfl, ← hX]
                      have hob := noob (i := c) (n := 12) (by omega) (by omega)
                      have hcl := nI_clamp (show c < 2 ^ 31 by omega)
                      have y1 : (st1 m1 68 c k).1 9 6 = nI c := c9
                      have y2 : (st1 (st1 m1 68 c k) 69 c u).1 9 6 = nI c := c9
                      have y3 : (st1 (st1 (st1 m1 68 c k) 69 c u) 70 c (nI a')).1 9 6 = nI c := c9
                      have y4 : (st1 (st1 (st1 (st1 m1 68 c k) 69 c u) 70 c (nI a')) 71 c b).1 9 6 = nI c := c9
                      have y5 : (st1 (st1 (st1 (st1 (st1 m1 68 c k) 69 c u) 70 c (nI a')) 71 c b) 72 c s).1 9 6 = nI c := c9
                      have y6 : (st1 (st1 (st1 (st1 (st1 m1 68 c k) 69 c u) 70 c (nI a')) 71 c b) 72 c s).1 9 3 = nI l := l9
                      simp only [bnd_eq, hcl, if_neg hob, y1, y2, y3, y4, y5, y6]
                      unfold cB9
                      have y7 : (st1 (st1 (st1 (st1 (st1 (st1 m1 68 c k) 69 c u) 70 c (nI a')) 71 c b) 72 c s) 73 c (nI l)).1 9 3 = nI l := l9
                      rw [y7]
                    · rw [if_neg (fun z => e3 ((le_10 (by omega)).mp z))]
                      rw [if_neg e3] at hR
                      subst hR
                      rw [if_neg m5n0]
                unfold sX9_change_b148
                by_cases k0 : k = 0
                · rw [if_neg (not_not_intro k0)]
                  rw [show come k = 1 from if_pos k0] at tail
                  exact tail
                · rw [if_pos k0]
                  by_cases k1 : k = 1
                  · rw [if_neg (not_not_intro k1)]
                    rw [show come k = 2 by unfold come; rw [if_neg k0, if_pos k1]] at tail
                    exact tail
                  · rw [if_pos k1]
                    rw [show come k = 0 by unfold come; rw [if_neg k0, if_neg k1]] at tail
                    exact tail
              have four : (if k = 4 ∧ m.1 66 a' = -1 then (-4 : Int32) else if 12 ≤ c then -5 else if l + come k ≤ 10 then 0 else -5) = R → sX9_change_b130 k u (nI a') b s m1 = if R = 0 then X else some (R, m1) := by
                intro hR
                unfold sX9_change_b130 sX9_change_b145
                by_cases k4 : k = 4
                · rw [if_neg (not_not_intro k4), if_neg (noob (by omega) (by omega)), nI_clamp (by omega), e66]
                  by_cases e : m.1 66 a' = -1
                  · rw [if_neg (not_not_intro e)]
                    rw [if_pos ⟨k4, e⟩] at hR
                    subst hR
                    rw [if_neg m4n0]
                  · rw [if_pos e]
                    exact fin (fun z => e z.2) hR
                · rw [if_pos k4]
                  exact fin (fun z => k4 z.1) hR
              have kinds : (if (k = 0 ∨ k = 1 ∨ k = 3) ∧ ¬ someOf (gof (m.1 74) (nI a') c g) s then (-4 : Int32) else if k = 4 ∧ m.1 66 a' = -1 then (-4 : Int32) else if 12 ≤ c then -5 else if l + come k ≤ 10 then 0 else -5) = R → sX9_change_b110 k u (nI a') b s m1 = if R = 0 then X else some (R, m1) := by
                intro hR
                unfold sX9_change_b110 sX9_change_b145
                by_cases k2 : k = 2
                · rw [if_pos k2]
                  rw [if_neg (fun z => z.1.elim (fun y => by rw [y] at k2; exact absurd k2 (by decide)) (fun y => y.elim (fun y => by rw [y] at k2; exact absurd k2 (by decide)) (fun y => by rw [y] at k2; exact absurd k2 (by decide))))] at hR
                  exact four hR
                · rw [if_neg k2]
                  by_cases k4 : k = 4
                  · rw [if_pos k4]
                    rw [if_neg (fun z => z.1.elim (fun y => by rw [y] at k4; exact absurd k4 (by decide)) (fun y => y.elim (fun y => by rw [y] at k4; exact absurd k4 (by decide)) (fun y => by rw [y] at k4; exact absurd k4 (by decide))))] at hR
                    exact four hR
                  · rw [if_neg k4, q_some9 hg hc g9 c9, cbR_some, e74]
                    have kk : k = 0 ∨ k = 1 ∨ k = 3 := by
                      obtain ⟨q, hq, rfl⟩ := inR_nat (n := 4) (by decide) h1
                      rcases (show q = 0 ∨ q = 1 ∨ q = 2 ∨ q = 3 ∨ q = 4 by omega) with rfl | rfl | rfl | rfl | rfl
                      · exact Or.inl rfl
                      · exact Or.inr (Or.inl rfl)
                      · exact absurd rfl k2
                      · exact Or.inr (Or.inr rfl)
                      · exact absurd rfl k4
                    by_cases e : someOf (gof (m.1 74) (nI a') c g) s
                    · rw [bI_t e, if_neg n10]
                      rw [if_neg (fun z => z.2 e)] at hR
                      exact four hR
                    · rw [bI_f e, if_pos rfl]
                      rw [if_pos ⟨kk, e⟩] at hR
                      subst hR
                      rw [if_neg m4n0]
              have both : ¬ ((k = 2 ∨ k = 3) ∧ ¬ isTh (m.1 75 c) b l) → sX9_change_b99 k u (nI a') b s t0 m1 = if R = 0 then X else some (R, m1) := by
                intro hb
                rw [if_neg hb] at hR
                unfold sX9_change_b99 sX9_change_b145
                by_cases e : t0 = 0
                · rw [if_pos e]
                  rw [if_neg (fun z => ht.mp e z.1)] at hR
                  exact kinds hR
                · rw [if_neg e]
                  by_cases e2 : nI a' = b
                  · rw [if_pos e2]
                    have kk : k = 2 ∨ k = 3 := by
                      by_cases z : k = 2 ∨ k = 3
                      · exact z
                      · exact absurd (ht.mpr z) e
                    rw [if_pos ⟨kk, e2⟩] at hR
                    subst hR
                    rw [if_neg m4n0]
                  · rw [if_neg e2]
                    rw [if_neg (fun z => e2 z.2)] at hR
                    exact kinds hR
              by_cases e : t0 = 0
              · rw [if_pos e]
                exact both (fun z => ht.mp e z.1)
              · rw [if_neg e, th, cbR_some]
                have kk : k = 2 ∨ k = 3 := by
                  by_cases z : k = 2 ∨ k = 3
                  · exact z
                  · exact absurd (ht.mpr z) e
                by_cases hb : isTh (m.1 75 c) b l
                · rw [bI_t hb, if_pos n10]
                  exact both (fun z => z.2 hb)
                · rw [bI_f hb, if_neg nn0]
                  rw [if_pos ⟨kk, hb⟩] at hR
                  subst hR
                  rw [if_neg m2n0]
            · rw [bI_f h3, if_pos rfl]
              rw [if_pos h3] at hR
              subst hR
              rw [if_neg m2n0]
          by_cases k2 : k = 2
          · rw [if_pos k2]
            exact step 1 ⟨fun z => absurd z (by decide), fun z => absurd (Or.inl k2) z⟩
          · rw [if_neg k2]
            by_cases k3 : k = 3
            · rw [if_neg (not_not_intro k3)]
              exact step 1 ⟨fun z => absurd z (by decide), fun z => absurd (Or.inr k3) z⟩
            · rw [if_pos k3]
              exact step 0 ⟨fun _ z => z.elim k2 k3, fun _ => rfl⟩
        · rw [bI_f h2, if_neg nn0]
          rw [if_pos (fun z => h2 z.2.2)] at hR
          subst hR
          rw [if_neg m3n0]
      by_cases h0 : c = 0
      · rw [if_pos ((c_le0 hc).mpr h0)]
        exact late (Or.inl h0)
      · rw [if_neg (fun z => h0 ((c_le0 hc).mp z))]
        obtain ⟨c', rfl⟩ : ∃ c', c = c' + 1 := ⟨c - 1, by omega⟩
        rw [nI_pred, if_neg (noob (by omega) (by omega)), nI_clamp (by omega), e69]
        by_cases e : u < m.1 69 c'
        · rw [if_pos e]
          rw [if_pos (fun z => z.2.1.elim h0 (fun y => y e))] at hR
          subst hR
          rw [if_neg m3n0]
        · rw [if_neg e]
          exact late (Or.inr e)
    · rw [bI_f hu, if_pos rfl]
      rw [if_pos (fun z => hu z.1)] at hR
      subst hR
      rw [if_neg m3n0]
  · rw [bI_f h1, if_pos rfl]
    rw [if_pos h1] at hR
    subst hR
    rw [if_neg m3n0]
