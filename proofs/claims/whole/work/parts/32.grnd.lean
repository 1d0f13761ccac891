/-! grounds -/
def gRef (c g : Nat) (a s : Int32) : Int32 :=
  if ¬ (inR a 1 999 ∧ inR s 0 999) then -3 else if ¬ c = 0 then -4 else if g < 8 then 0 else -5
def addO8 (m : pMem) (g : Nat) (a s : Int32) : pMem := st1 (st1 (st1 (st1 m 19 g a) 20 g s) 30 0 (m.1 30 0 ||| ((1 : Int32) <<< (nI g &&& 31)))) 3 2 (nI (g + 1))
def addO9 (m : pMem) (g : Nat) (a s : Int32) : pMem := st1 (st1 (st1 (st1 m 64 g a) 65 g s) 74 g 0) 9 0 (nI (g + 1))
theorem c_le0 {c : Nat} (h : c ≤ 12) : nI c ≤ (0 : Int32) ↔ c = 0 := by
  rw [show (0 : Int32) = nI 0 from rfl, le_iff (by omega) (by omega)]
  omega
theorem s8_ground {m : pMem} {c g : Nat} (hc : m.1 3 12 = nI c) (hcle : c ≤ 12) (hg : m.1 3 2 = nI g) (hle : g ≤ 8) (a s : Int32) : sX8_ground a s m = some (if gRef c g a s = 0 then (nI g, addO8 m g a s) else (gRef c g a s, m)) := by
  generalize hR : gRef c g a s = R
  unfold gRef at hR
  unfold sX8_ground sX8_ground_b23
  have le9 : s ≤ 999 ↔ ¬ (999 : Int32) < s := Int32.not_lt.symm
  by_cases h1 : inR a 1 999
  · rw [if_neg h1.1, if_neg h1.2]
    by_cases h2 : inR s 0 999
    · rw [if_neg h2.1, if_pos (le9.mpr h2.2), hc]
      rw [if_neg (not_not_intro ⟨h1, h2⟩)] at hR
      by_cases h3 : c = 0
      · rw [if_pos ((c_le0 hcle).mpr h3), hg]
        rw [if_neg (not_not_intro h3)] at hR
        by_cases h8 : g < 8
        · rw [if_pos ((ne8 hle).1.mpr h8)]
          rw [if_pos h8] at hR
          subst hR
          rw [if_pos rfl]
          unfold sX2_addGround
          have hob := noob (i := g) (n := 8) (by omega) h8
          have hcl := nI_clamp (show g < 2 ^ 31 by omega)
          simp only [bnd_eq, hg, if_neg hob, hcl]
          have e1 : (st1 (st1 (st1 m 19 g a) 20 g s) (30 + (0 : Int32).toNatClampNeg) ((0 : Int32).toNatClampNeg) ((st1 (st1 m 19 g a) 20 g s).1 (30 + (0 : Int32).toNatClampNeg) ((0 : Int32).toNatClampNeg) ||| ((1 : Int32) <<< (nI g &&& 31)))).1 3 2 = nI g := hg
          rw [e1, nI_1, cbE_some]
          rfl
        · rw [if_neg (fun z => h8 ((ne8 hle).1.mp z))]
          rw [if_neg h8] at hR
          subst hR
          rw [if_neg m5n0]
      · rw [if_neg (fun z => h3 ((c_le0 hcle).mp z))]
        rw [if_pos h3] at hR
        subst hR
        rw [if_neg m4n0]
    · rw [if_pos (fun z => h2 z.2)] at hR
      subst hR
      rw [if_neg m3n0]
      by_cases k0 : s < 0
      · rw [if_pos k0]
      · rw [if_neg k0, if_neg (fun z => h2 ⟨k0, le9.mp z⟩)]
  · rw [if_pos (fun z => h1 z.1)] at hR
    subst hR
    rw [if_neg m3n0]
    by_cases k0 : a < 1
    · rw [if_pos k0]
    · rw [if_neg k0, if_pos (by
        by_cases z : (999 : Int32) < a
        · exact z
        · exact absurd ⟨k0, z⟩ h1)]
theorem s9_ground {m : pMem} {c g : Nat} (hc : m.1 9 6 = nI c) (hcle : c ≤ 12) (hg : m.1 9 0 = nI g) (hle : g ≤ 8) (a s : Int32) : sX9_ground a s m = some (if gRef c g a s = 0 then (nI g, addO9 m g a s) else (gRef c g a s, m)) := by
  generalize hR : gRef c g a s = R
  unfold gRef at hR
  unfold sX9_ground sX9_ground_b22
  rw [p_in, cbR_some]
  by_cases h1 : inR a 1 999
  · rw [bI_t h1, if_neg n10, p_in, cbR_some]
    by_cases h2 : inR s 0 999
    · rw [bI_t h2, if_pos n10, hc]
      rw [if_neg (not_not_intro ⟨h1, h2⟩)] at hR
      by_cases h3 : c = 0
      · rw [if_pos ((c_le0 hcle).mpr h3), hg]
        rw [if_neg (not_not_intro h3)] at hR
        by_cases h8 : g < 8
        · rw [if_pos (fun z => absurd ((ne8 hle).2.mp z) (by omega))]
          rw [if_pos h8] at hR
          subst hR
          rw [if_pos rfl]
          have hob := noob (i := g) (n := 8) (by omega) h8
          have hob2 := noob (i := g) (n := 104) (by omega) (by omega)
          have hcl := nI_clamp (show g < 2 ^ 31 by omega)
          have e1 : (st1 m 64 g a).1 9 0 = nI g := hg
          have e2 : (st1 (st1 m 64 g a) 65 g s).1 9 0 = nI g := hg
          have e3 : (st1 (st1 (st1 m 64 g a) 65 g s) 74 g 0).1 9 0 = nI g := hg
          simp only [bnd_eq, if_neg hob, if_neg hob2, hcl, e1, e2, e3, nI_1]
          unfold addO9
          rw [show (st1 (st1 (st1 (st1 m 64 g a) 65 g s) 74 g 0) 9 0 (nI (g + 1))).1 9 0 = nI (g + 1) from rfl, nI_pred]
        · rw [if_neg (not_not_intro ((ne8 hle).2.mpr (by omega)))]
          rw [if_neg h8] at hR
          subst hR
          rw [if_neg m5n0]
      · rw [if_neg (fun z => h3 ((c_le0 hcle).mp z))]
        rw [if_pos h3] at hR
        subst hR
        rw [if_neg m4n0]
    · rw [bI_f h2, if_neg nn0]
      rw [if_pos (fun z => h2 z.2)] at hR
      subst hR
      rw [if_neg m3n0]
  · rw [bI_f h1, if_pos rfl]
    rw [if_pos (fun z => h1 z.1)] at hR
    subst hR
    rw [if_neg m3n0]
theorem gRef_0 {c g : Nat} {a s : Int32} (h : gRef c g a s = 0) : inR a 1 999 ∧ inR s 0 999 ∧ c = 0 ∧ g < 8 := by
  unfold gRef at h
  by_cases h1 : inR a 1 999 ∧ inR s 0 999
  · rw [if_neg (not_not_intro h1)] at h
    by_cases h2 : c = 0
    · rw [if_neg (not_not_intro h2)] at h
      by_cases h3 : g < 8
      · exact ⟨h1.1, h1.2, h2, h3⟩
      · rw [if_neg h3] at h; exact absurd h m5n0
    · rw [if_pos h2] at h; exact absurd h m4n0
  · rw [if_pos h1] at h; exact absurd h m3n0
theorem upd_self {f : Nat → Int32} {n : Nat} {x : Int32} (h : f n = x) : upd f n x = f := by
  funext i
  by_cases e : i = n
  · subst e; rw [upd_eq, h]
  · rw [upd_ne _ _ e]
theorem IH_ground {m : pMem} {g l : Nat} (h : IH m 0 g l) (h8 : g < 8) {a s : Int32} (ha : ∃ k, 1 ≤ k ∧ k ≤ 999 ∧ a = nI k) (hs : ∃ k, k ≤ 999 ∧ s = nI k) : IH (addO9 (addO8 m g a s) g a s) 0 (g + 1) l := by
  have z : ∀ {P : Nat → Prop} (i : Nat), i < 0 → P i := fun i h => absurd h (Nat.not_lt_zero _)
  have e74 : (addO9 (addO8 m g a s) g a s).1 74 = m.1 74 := by
    show upd (m.1 74) g 0 = m.1 74
    exact upd_self (h.o0 g h8)
  refine ⟨h.c9, h.c3, h.cle, rfl, rfl, by omega, h.l9, h.l3, h.lle, h.ll, ?_, ?_, h.par, h.cam, h.knd, h.day, h.fst, h.snd, h.frs, h.thr, ?_, ?_, z, z, h.ds, z, z, z, z, ?_, z, h.t0, z, ?_, h.f0, h.cm0, z, z, h.sof, z, h.en⟩
  · show upd (m.1 19) g a = upd (m.1 64) g a
    rw [h.heads]
  · show upd (m.1 20) g s = upd (m.1 65) g s
    rw [h.worth]
  · exact rg_up (P := fun z => ∃ k, 1 ≤ k ∧ k ≤ 999 ∧ z = nI k) h.hr ha
  · exact rg_up (P := fun z => ∃ k, k ≤ 999 ∧ z = nI k) h.wr hs
  · rw [e74]; exact h.o0
  · intro j hj q hq
    have hj0 : j = 0 := by omega
    subst hj0
    rw [e74, gof_s, show 8 * 0 + g = g by omega, h.o0 g h8]
    rw [← h.rows 0 hj q hq]
    by_cases hq0 : q = 0
    · subst hq0
      rw [if_pos (show (0 : Int32) = nI 0 from rfl)]
      show upd (m.1 30) 0 (m.1 30 0 ||| ((1 : Int32) <<< (nI g &&& 31))) 0 = _
      rw [upd_eq]
    · rw [if_neg (show ¬ (0 : Int32) = nI q from fun z => hq0 (nI_inj (a := 0) (by omega) (by omega) z).symm)]
      show upd (m.1 30) 0 (m.1 30 0 ||| ((1 : Int32) <<< (nI g &&& 31))) q = _
      rw [upd_ne _ _ hq0]
      show m.1 30 q = m.1 30 q ||| 0
      exact (Int32.or_zero).symm
theorem IP.ground {m m' : pMem} {c g l p w v : Nat} (h : IP m c g l p w v) (hs : IP.same m m') : IP m' c (g + 1) l p w v := by
  have h' := h.congr hs
  exact ⟨h'.p9,
    h'.p4,
    h'.ple,
    h'.knd,
    h'.sgn,
    h'.day,
    h'.plc,
    h'.kr,
    h'.lr,
    fun i hi hk => by
      obtain ⟨k, hk, e⟩ := h'.gr i hi hk
      exact ⟨k, by omega, e⟩,
    h'.dr,
    h'.lat,
    h'.w9,
    h'.w8,
    h'.wle,
    h'.wp,
    h'.wl,
    h'.wt,
    h'.wy,
    h'.wd,
    h'.wpr,
    h'.wlr,
    h'.wtr,
    h'.wyr,
    h'.wdr,
    h'.v9,
    h'.v7,
    h'.vle,
    h'.vt,
    h'.vl,
    h'.vy,
    h'.vd,
    h'.vtr,
    h'.vlr,
    h'.vyr,
    h'.vdr,
    h'.lft,
    h'.mc,
    h'.mp,
    h'.mw,
    h'.mv⟩
theorem IG.ground {m m' : pMem} {g l d t n : Nat} (h : IG m g l d t n) (hs : IG.same m m') : IG m' (g + 1) l d t n := by
  have h' := h.congr hs
  exact ⟨h'.d9,
    h'.d2,
    h'.dle,
    h'.dl,
    h'.dsu,
    h'.dg,
    h'.dd,
    h'.dlr,
    h'.dsr,
    fun i hi => (h'.dgr i hi).imp id (fun ⟨k, hk, e⟩ => ⟨k, by omega, e⟩),
    h'.ddr,
    h'.lat,
    h'.t9,
    h'.t2,
    h'.tle,
    h'.tk,
    h'.tm,
    h'.tp,
    h'.tkr,
    h'.tmr,
    fun i hi hk => by
      obtain ⟨k, hk, e⟩ := h'.tgr i hi hk
      exact ⟨k, by omega, e⟩,
    h'.n9,
    h'.n5,
    h'.nle,
    h'.nl,
    h'.nb,
    h'.nw,
    h'.nlr,
    fun i hi => by
      obtain ⟨k, hk, e⟩ := h'.nbr i hi
      exact ⟨k, by omega, e⟩,
    fun i hi => by
      obtain ⟨k, hk, e⟩ := h'.nwr i hi
      exact ⟨k, by omega, e⟩⟩
theorem q_ground {m : pMem} (I : Inv m) (a s : Int32) : ∃ r m1 m2, sX8_ground a s m = some (r, m1) ∧ sX9_ground a s m1 = some (r, m2) ∧ Inv m2 := by
  have I0 := I
  obtain ⟨c, g, l, p, w, v, d, tt, n, b, h, hT, hP, hG⟩ := I
  have e := s8_ground h.c3 h.cle h.g3 h.gle a s
  have e9 := s9_ground h.c9 h.cle h.g9 h.gle a s
  rw [e]
  by_cases hz : gRef c g a s = 0
  · rw [if_pos hz]
    obtain ⟨h1, h2, h3, h4⟩ := gRef_0 hz
    subst h3
    have e10 := s9_ground (m := addO8 m g a s) h.c9 h.cle h.g9 h.gle a s
    rw [if_pos hz] at e10
    refine ⟨_, _, _, rfl, e10, ?_⟩
    refine ⟨0, g + 1, l, p, w, v, d, tt, n, b, IH_ground h h4 (inR_1 (n := 999) (by decide) h1) (day_of h2), hT.congr ⟨rfl, rfl, rfl, rfl, rfl, rfl⟩, hP.ground ⟨rfl, rfl, rfl, rfl, rfl, rfl, rfl, rfl, rfl, rfl, rfl, rfl, rfl, rfl, rfl, rfl, rfl, rfl, rfl, rfl, rfl, rfl, rfl, rfl, rfl, rfl, rfl, rfl, rfl, rfl, rfl, rfl, rfl, rfl, rfl, rfl⟩, hG.ground ⟨rfl, rfl, rfl, rfl, rfl, rfl, rfl, rfl, rfl, rfl, rfl, rfl, rfl, rfl, rfl, rfl, rfl, rfl, rfl, rfl, rfl, rfl, rfl, rfl, rfl, rfl, rfl⟩⟩
  · rw [if_neg hz]
    rw [if_neg hz] at e9
    exact ⟨_, _, _, rfl, e9, I0⟩
