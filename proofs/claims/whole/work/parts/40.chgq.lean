/-! changes: both sides -/
theorem cRef_0 {m : pMem} {c g l p d : Nat} (hl : l ≤ 10) {k u a b s : Int32} (h : cRef m c g l p d k u a b s = 0) : ∃ u' a' b', u = nI u' ∧ a = nI a' ∧ cAsk m c g l k u' a' b' b s := by
  unfold cRef at h
  by_cases h1 : inR k 0 4
  · rw [if_neg (not_not_intro h1)] at h
    by_cases h2 : cDay m c p d u
    · rw [if_neg (not_not_intro h2)] at h
      by_cases h3 : isTh (m.1 75 c) a l
      · rw [if_neg (not_not_intro h3)] at h
        by_cases h4 : (k = 2 ∨ k = 3) ∧ ¬ isTh (m.1 75 c) b l
        · rw [if_pos h4] at h; exact absurd h m2n0
        · rw [if_neg h4] at h
          by_cases h5 : (k = 2 ∨ k = 3) ∧ a = b
          · rw [if_pos h5] at h; exact absurd h m4n0
          · rw [if_neg h5] at h
            by_cases h6 : (k = 0 ∨ k = 1 ∨ k = 3) ∧ ¬ someOf (gof (m.1 74) a c g) s
            · rw [if_pos h6] at h; exact absurd h m4n0
            · rw [if_neg h6] at h
              by_cases h7 : k = 4 ∧ m.1 66 (nv a) = -1
              · rw [if_pos h7] at h; exact absurd h m4n0
              · rw [if_neg h7] at h
                by_cases h8 : 12 ≤ c
                · rw [if_pos h8] at h; exact absurd h m5n0
                · rw [if_neg h8] at h
                  by_cases h9 : l + come k ≤ 10
                  · obtain ⟨u', hu, rfl⟩ := day_of h2.1
                    obtain ⟨a', ha, rfl⟩ := (inN_iff (show l < 2 ^ 31 by omega)).mp h3.1
                    have hat := h3.2
                    rw [nv_nI (by omega)] at hat
                    have hs : (k = 0 ∨ k = 1 ∨ k = 3) → someOf (gof (m.1 74) (nI a') c g) s := fun y => by
                      by_cases z : someOf (gof (m.1 74) (nI a') c g) s
                      · exact z
                      · exact absurd ⟨y, z⟩ h6
                    by_cases kk : k = 2 ∨ k = 3
                    · have hb : isTh (m.1 75 c) b l := by
                        by_cases z : isTh (m.1 75 c) b l
                        · exact z
                        · exact absurd ⟨kk, z⟩ h4
                      obtain ⟨b', hb', rfl⟩ := (inN_iff (show l < 2 ^ 31 by omega)).mp hb.1
                      have hbt := hb.2
                      rw [nv_nI (by omega)] at hbt
                      exact ⟨u', a', b', rfl, rfl, inR_nat (n := 4) (by decide) h1, hu, h2.2.1, ha, hat, fun _ => ⟨rfl, hb', fun z => h5 ⟨kk, by rw [z]⟩, hbt⟩, hs, by omega, h9⟩
                    · exact ⟨u', a', 0, rfl, rfl, inR_nat (n := 4) (by decide) h1, hu, h2.2.1, ha, hat, fun z => absurd z kk, hs, by omega, h9⟩
                  · rw [if_neg h9] at h; exact absurd h m5n0
      · rw [if_pos h3] at h; exact absurd h m2n0
    · rw [if_pos h2] at h; exact absurd h m3n0
  · rw [if_pos h1] at h; exact absurd h m3n0
theorem q_change {m : pMem} (I : Inv m) (k u a b s : Int32) : ∃ r m1 m2, sX8_change k u a b s m = some (r, m1) ∧ sX9_change k u a b s m1 = some (r, m2) ∧ Inv m2 := by
  have I0 := I
  obtain ⟨c, g, l, p, w, v, d, tt, n, bb, h, hT, hP, hG⟩ := I
  have e := s8_chg h hP.lat hG.lat k u a b s
  by_cases hz : cRef m c g l p d k u a b s = 0
  · obtain ⟨u', a', b', rfl, rfl, hA⟩ := cRef_0 h.lle hz
    have hA' := hA
    obtain ⟨hk, hu, hday, ha, hat, hb, hs, hc, hl⟩ := hA'
    have h' : IH (mkM m u') c g l := h.congr ⟨rfl, rfl, rfl, rfl, rfl, rfl, rfl, rfl, rfl, rfl, rfl, rfl, rfl, rfl, rfl, rfl, rfl, rfl, rfl, rfl, rfl, rfl, rfl, rfl, rfl, rfl, rfl, rfl, rfl, rfl, rfl, fun j hj => by simp only [ st1_1, mkM_1]; (repeat rw [if_neg (by omega)])⟩
    obtain ⟨m1, e1, d8⟩ := q_add (m := mkM m u') (c := c) (l := l) h.c3 h.l3 hc (k := k) (u := nI u') (a := a') (b := b') (bb := b) (s := s) ha h.lle hl (fun y => ⟨(hb y).1, (hb y).2.1, (hb y).2.2.1⟩)
    rw [if_pos hz, p_mark hu, cbE_some, e1, cbE_some] at e
    have d8' := d8
    obtain ⟨s2, fr8, o3, -⟩ := d8'
    have hs9 : same9 m m1 := ⟨fr8 9 (by omega) (by omega) (by omega) (by omega), fun q hq hq2 => fr8 q (by omega) (by omega) (by omega) (by omega)⟩
    have e9 := s9_chg h hs9 hP.ple hP.p9 hG.dle hG.d9 k (nI u') (nI a') b s
    rw [if_pos hz] at e9
    obtain ⟨m2, e2, d9⟩ := q_chg9 (m := m1) (c := c) (l := l) hc (by rw [hs9.1]; exact h.c9) (by rw [hs9.1]; exact h.l9) k (nI u') (nI a') b s hl
    rw [e2] at e9
    refine ⟨_, m1, m2, e, e9, ?_⟩
    have hIH := IH_change h' hA d8 d9
    obtain ⟨t2, fr9, fr76, o9, -, -, -, -, -, e69, -⟩ := d9
    rw [hs9.2 69 (by omega) (by omega)] at e69
    have E2 : m2.2 = (mkM m u').2 := t2.trans s2
    have F : ∀ q, q ≠ 3 → q ≠ 9 → (q < 21 ∨ (43 < q ∧ q < 106)) → (q < 64 ∨ 75 < q) → m2.1 q = m.1 q := by
      intro q q1 q2 q3 q4
      have y1 : m2.1 q = m1.1 q := by
        rcases q4 with z | z
        · exact fr9 q z q2
        · exact fr76 q (by omega)
      rw [y1]
      exact fr8 q q1 (by omega) (by omega) (by omega)
    have O : ∀ q, q ≠ 3 → q ≠ 6 → m2.1 9 q = m.1 9 q := by
      intro q q1 q2
      rw [o9 q q1 q2, hs9.1]
    have hPm : IP (mkM m u') c g l p w v := ⟨hP.p9,
    hP.p4,
    hP.ple,
    hP.knd,
    hP.sgn,
    hP.day,
    hP.plc,
    hP.kr,
    hP.lr,
    hP.gr,
    hP.dr,
    hP.lat,
    hP.w9,
    hP.w8,
    hP.wle,
    hP.wp,
    hP.wl,
    hP.wt,
    hP.wy,
    hP.wd,
    hP.wpr,
    hP.wlr,
    hP.wtr,
    hP.wyr,
    hP.wdr,
    hP.v9,
    hP.v7,
    hP.vle,
    hP.vt,
    hP.vl,
    hP.vy,
    hP.vd,
    hP.vtr,
    hP.vlr,
    hP.vyr,
    hP.vdr,
    hP.lft,
    fun j hj k hk e => mkM_mk (hP.mc j hj k hk e),
    fun j hj k hk e => mkM_mk (hP.mp j hj k hk e),
    fun j hj k hk e => mkM_mk (hP.mw j hj k hk e),
    fun j hj k hk e => mkM_mk (hP.mv j hj k hk e)⟩
    have hM : IP ((fun q => if q = 69 then m.1 69 else m2.1 q, m2.2) : pMem) c g l p w v := hPm.congr ⟨congrFun (F 4 (by omega) (by omega) (by omega) (by omega)) 8, congrFun (F 4 (by omega) (by omega) (by omega) (by omega)) 9, congrFun (F 7 (by omega) (by omega) (by omega) (by omega)) 4, congrFun (F 8 (by omega) (by omega) (by omega) (by omega)) 5, O 26 (by omega) (by omega), O 32 (by omega) (by omega), O 38 (by omega) (by omega), O 39 (by omega) (by omega), F 44 (by omega) (by omega) (by omega) (by omega), F 45 (by omega) (by omega) (by omega) (by omega), F 46 (by omega) (by omega) (by omega) (by omega), F 47 (by omega) (by omega) (by omega) (by omega), F 55 (by omega) (by omega) (by omega) (by omega), F 56 (by omega) (by omega) (by omega) (by omega), F 57 (by omega) (by omega) (by omega) (by omega), F 58 (by omega) (by omega) (by omega) (by omega), F 59 (by omega) (by omega) (by omega) (by omega), F 60 (by omega) (by omega) (by omega) (by omega), F 61 (by omega) (by omega) (by omega) (by omega), F 62 (by omega) (by omega) (by omega) (by omega), F 63 (by omega) (by omega) (by omega) (by omega), rfl, F 79 (by omega) (by omega) (by omega) (by omega), F 80 (by omega) (by omega) (by omega) (by omega), F 82 (by omega) (by omega) (by omega) (by omega), F 83 (by omega) (by omega) (by omega) (by omega), F 84 (by omega) (by omega) (by omega) (by omega), F 85 (by omega) (by omega) (by omega) (by omega), F 86 (by omega) (by omega) (by omega) (by omega), F 87 (by omega) (by omega) (by omega) (by omega), F 88 (by omega) (by omega) (by omega) (by omega), F 89 (by omega) (by omega) (by omega) (by omega), F 90 (by omega) (by omega) (by omega) (by omega), F 91 (by omega) (by omega) (by omega) (by omega), F 92 (by omega) (by omega) (by omega) (by omega), congrFun E2 10⟩
    have hG2 : IG m2 g l d tt n := hG.congr ⟨congrFun (F 2 (by omega) (by omega) (by omega) (by omega)) 5, congrFun (F 2 (by omega) (by omega) (by omega) (by omega)) 6, congrFun (F 2 (by omega) (by omega) (by omega) (by omega)) 10, congrFun (F 5 (by omega) (by omega) (by omega) (by omega)) 3, O 46 (by omega) (by omega), O 51 (by omega) (by omega), O 55 (by omega) (by omega), F 11 (by omega) (by omega) (by omega) (by omega), F 12 (by omega) (by omega) (by omega) (by omega), F 13 (by omega) (by omega) (by omega) (by omega), F 14 (by omega) (by omega) (by omega) (by omega), F 15 (by omega) (by omega) (by omega) (by omega), F 16 (by omega) (by omega) (by omega) (by omega), F 17 (by omega) (by omega) (by omega) (by omega), F 49 (by omega) (by omega) (by omega) (by omega), F 50 (by omega) (by omega) (by omega) (by omega), F 51 (by omega) (by omega) (by omega) (by omega), F 95 (by omega) (by omega) (by omega) (by omega), F 96 (by omega) (by omega) (by omega) (by omega), F 97 (by omega) (by omega) (by omega) (by omega), F 98 (by omega) (by omega) (by omega) (by omega), F 99 (by omega) (by omega) (by omega) (by omega), F 100 (by omega) (by omega) (by omega) (by omega), F 101 (by omega) (by omega) (by omega) (by omega), F 102 (by omega) (by omega) (by omega) (by omega), F 103 (by omega) (by omega) (by omega) (by omega), F 104 (by omega) (by omega) (by omega) (by omega)⟩
    have hT2 : IT m2 bb := hT.congr ⟨congrFun (F 6 (by omega) (by omega) (by omega) (by omega)) 1, O 15 (by omega) (by omega), F 52 (by omega) (by omega) (by omega) (by omega), F 53 (by omega) (by omega) (by omega) (by omega), F 76 (by omega) (by omega) (by omega) (by omega), F 78 (by omega) (by omega) (by omega) (by omega)⟩
    refine ⟨c + 1, g, l + come k, p, w, v, d, tt, n, bb, hIH, hT2, ?_, ?_⟩
    · exact ⟨hM.p9,
    hM.p4,
    hM.ple,
    hM.knd,
    hM.sgn,
    hM.day,
    hM.plc,
    hM.kr,
    fun i hi => by
        obtain ⟨k, hk, e⟩ := hM.lr i hi
        exact ⟨k, by omega, e⟩,
    hM.gr,
    hM.dr,
    hM.lat,
    hM.w9,
    hM.w8,
    hM.wle,
    hM.wp,
    hM.wl,
    hM.wt,
    hM.wy,
    hM.wd,
    hM.wpr,
    fun i hi => by
        obtain ⟨k, hk, e⟩ := hM.wlr i hi
        exact ⟨k, by omega, e⟩,
    hM.wtr,
    hM.wyr,
    hM.wdr,
    hM.v9,
    hM.v7,
    hM.vle,
    hM.vt,
    hM.vl,
    hM.vy,
    hM.vd,
    hM.vtr,
    fun i hi => by
        obtain ⟨k, hk, e⟩ := hM.vlr i hi
        exact ⟨k, by omega, e⟩,
    hM.vyr,
    hM.vdr,
    hM.lft,
    fun j hj k hk e => by
        rcases (show j < c ∨ j = c by omega) with z | z
        · have e' : m.1 69 j = nI k := by
            rw [← e, e69, upd_ne _ _ (show j ≠ c by omega)]
          exact hM.mc j z k hk e'
        · subst z
          rw [e69, upd_eq] at e
          have := nI_inj (by omega) (by omega) e
          subst this
          have y := mkM_self m u'
          unfold mkd at y ⊢
          rw [E2]
          exact y,
    hM.mp,
    hM.mw,
    hM.mv⟩
    · exact ⟨hG2.d9,
    hG2.d2,
    hG2.dle,
    hG2.dl,
    hG2.dsu,
    hG2.dg,
    hG2.dd,
    fun i hi => by
        obtain ⟨k, hk, e⟩ := hG2.dlr i hi
        exact ⟨k, by omega, e⟩,
    hG2.dsr,
    hG2.dgr,
    hG2.ddr,
    hG2.lat,
    hG2.t9,
    hG2.t2,
    hG2.tle,
    hG2.tk,
    hG2.tm,
    hG2.tp,
    hG2.tkr,
    hG2.tmr,
    hG2.tgr,
    hG2.n9,
    hG2.n5,
    hG2.nle,
    hG2.nl,
    hG2.nb,
    hG2.nw,
    fun i hi => by
        obtain ⟨k, hk, e⟩ := hG2.nlr i hi
        exact ⟨k, by omega, e⟩,
    hG2.nbr,
    hG2.nwr⟩
  · have e9 := s9_chg h (m1 := m) ⟨rfl, fun _ _ _ => rfl⟩ hP.ple hP.p9 hG.dle hG.d9 k u a b s
    rw [if_neg hz] at e e9
    exact ⟨_, _, _, e, e9, I0⟩
