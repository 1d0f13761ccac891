/-! what was counted stays -/
theorem lnF_up {K : Nat → Int32} {c : Nat} {k : Int32} : ∀ {j : Nat}, j ≤ c → lnF (upd K c k) j = lnF K j
  | 0, _ => rfl
  | j + 1, h => by rw [lnF_s, lnF_s, lnF_up (j := j) (by omega), upd_ne _ _ (show j ≠ c by omega)]
theorem lnF_new (K : Nat → Int32) (c : Nat) (k : Int32) : lnF (upd K c k) (c + 1) = lnF K c + come k := by
  rw [lnF_s, lnF_up (Nat.le_refl _), upd_eq]
  rfl
/-- what a change asks, once it is not turned down -/
def cAsk (m : pMem) (c g l : Nat) (k : Int32) (u a b : Nat) (bb s : Int32) : Prop :=
  (∃ q, q ≤ 4 ∧ k = nI q) ∧ u ≤ 999 ∧ (c = 0 ∨ ¬ nI u < m.1 69 (c - 1)) ∧ a < l ∧ bt (m.1 75 c) a = true
  ∧ ((k = 2 ∨ k = 3) → bb = nI b ∧ b < l ∧ b ≠ a ∧ bt (m.1 75 c) b = true) ∧ ((k = 0 ∨ k = 1 ∨ k = 3) → someOf (gof (m.1 74) (nI a) c g) s) ∧ c < 12 ∧ l + come k ≤ 10
theorem IH_change {m m1 m2 : pMem} {c g l : Nat} (h : IH m c g l) {k : Int32} {u a b : Nat} {bb s : Int32} (hA : cAsk m c g l k u a b bb s) (h8 : dChg8 c l k (nI u) a b bb s m m1) (h9 : dChg9 c l k (nI u) (nI a) bb s m1 m2) : IH m2 (c + 1) g (l + come k) := by
  obtain ⟨hk, hu, hday, ha, hat, hb, hs, hc, hl⟩ := hA
  obtain ⟨-, fr8, o3, l8, c8, k24, k25, k26, k27, k28, k106, k107, ⟨R, hR, row⟩, t43, t43', n21, o21, o23⟩ := h8
  obtain ⟨-, fr9, fr76, o9, l9, c9, e64, e65, e68, e69, e70, e71, e72, e73, n66, o66, n74, o74, n75, o75⟩ := h9
  have hll := h.ll
  have hle := h.lle
  have hgl := h.gle
  -- model cells of m1 are those of m
  have m8 : ∀ q, 44 ≤ q → q < 106 → m1.1 q = m.1 q := fun q hq hq2 => fr8 q (by omega) (by omega) (by omega) (by omega)
  have m89 : m1.1 9 = m.1 9 := fr8 9 (by omega) (by omega) (by omega) (by omega)
  have f2 : ∀ q, q < 64 → q ≠ 9 → m2.1 q = m1.1 q := fr9
  rw [m8 64 (by omega) (by omega)] at e64
  rw [m8 65 (by omega) (by omega)] at e65
  rw [m8 68 (by omega) (by omega)] at e68
  rw [m8 69 (by omega) (by omega)] at e69
  rw [m8 70 (by omega) (by omega)] at e70
  rw [m8 71 (by omega) (by omega)] at e71
  rw [m8 72 (by omega) (by omega)] at e72
  rw [m8 73 (by omega) (by omega)] at e73
  rw [m8 66 (by omega) (by omega), m8 67 (by omega) (by omega)] at o66
  rw [m8 74 (by omega) (by omega)] at n74 o74
  rw [m8 75 (by omega) (by omega)] at n75 o75
  have lo : ∀ j, j ≤ c → lnF (m2.1 68) j = lnF (m.1 68) j := fun j hj => by rw [e68, lnF_up hj]
  have ln : lnF (m2.1 68) (c + 1) = l + come k := by rw [e68, lnF_new, ← hll]
  have old68 : ∀ j, j < c → m2.1 68 j = m.1 68 j := fun j hj => by rw [e68, upd_ne _ _ (by omega)]
  have old70 : ∀ j, j < c → m2.1 70 j = m.1 70 j := fun j hj => by rw [e70, upd_ne _ _ (by omega)]
  have old71 : ∀ j, j < c → m2.1 71 j = m.1 71 j := fun j hj => by rw [e71, upd_ne _ _ (by omega)]
  have old72 : ∀ j, j < c → m2.1 72 j = m.1 72 j := fun j hj => by rw [e72, upd_ne _ _ (by omega)]
  have old73 : ∀ j, j < c → m2.1 73 j = m.1 73 j := fun j hj => by rw [e73, upd_ne _ _ (by omega)]
  have old69 : ∀ j, j < c → m2.1 69 j = m.1 69 j := fun j hj => by rw [e69, upd_ne _ _ (by omega)]
  have old75 : ∀ j, j ≤ c → m2.1 75 j = m.1 75 j := fun j hj => o75 j (by omega)
  have oldG : ∀ (x : Int32) (j : Nat), j ≤ c → gof (m2.1 74) x j g = gof (m.1 74) x j g := fun x j hj => gof_congr (fun i hi => o74 _ (by omega))
  have n68 : m2.1 68 c = k := by rw [e68, upd_eq]
  have n69 : m2.1 69 c = nI u := by rw [e69, upd_eq]
  have n70 : m2.1 70 c = nI a := by rw [e70, upd_eq]
  have n71 : m2.1 71 c = bb := by rw [e71, upd_eq]
  have n72 : m2.1 72 c = s := by rw [e72, upd_eq]
  have n73 : m2.1 73 c = nI l := by rw [e73, upd_eq]
  have jc : ∀ {j : Nat}, j < c + 1 → j < c ∨ j = c := fun hj => by omega
  have lc : lnF (m.1 68) c = l := hll.symm
  refine ⟨c9, ?_, by omega, ?_, ?_, h.gle, l9, ?_, hl, ln.symm, ?_, ?_, ?_, ?_, ?_, ?_, ?_, ?_, ?_, ?_, ?_, ?_, ?_, ?_, ?_, ?_, ?_, ?_, ?_, ?_, ?_, ?_, ?_, ?_, ?_, ?_, ?_, ?_, ?_, ?_, ?_⟩
  · rw [f2 3 (by omega) (by omega), c8]
  · rw [o9 0 (by omega) (by omega), m89]; exact h.g9
  · rw [f2 3 (by omega) (by omega), o3 2 (by omega) (by omega)]; exact h.g3
  · rw [f2 3 (by omega) (by omega), l8]
  · rw [e64, f2 19 (by omega) (by omega), fr8 19 (by omega) (by omega) (by omega) (by omega)]; exact h.heads
  · rw [e65, f2 20 (by omega) (by omega), fr8 20 (by omega) (by omega) (by omega) (by omega)]; exact h.worth
  · funext x
    rw [f2 21 (by omega) (by omega)]
    by_cases e : l ≤ x ∧ x < l + come k
    · rw [(n21 x e.1 e.2).1, (n66 x e.1 e.2).1]
    · rw [(o21 x (by omega)).1, (o66 x (by omega)).1, h.par]
  · funext x
    rw [f2 22 (by omega) (by omega)]
    by_cases e : l ≤ x ∧ x < l + come k
    · rw [(n21 x e.1 e.2).2.1, (n66 x e.1 e.2).2]
    · rw [(o21 x (by omega)).2, (o66 x (by omega)).2, h.cam]
  · rw [f2 24 (by omega) (by omega), k24, e68, h.knd]
  · rw [f2 25 (by omega) (by omega), k25, e69, h.day]
  · rw [f2 26 (by omega) (by omega), k26, e70, h.fst]
  · rw [f2 27 (by omega) (by omega), k27, e71, h.snd]
  · rw [f2 28 (by omega) (by omega), k28, e73, h.frs]
  · funext x
    rw [f2 43 (by omega) (by omega)]
    by_cases e : x = c + 1
    · rw [e, t43, n75, h.thr]
    · rw [t43' x e, o75 x e, h.thr]
  · rw [e64]; exact h.hr
  · rw [e65]; exact h.wr
  · rw [e68]; exact rg_up (P := fun z => ∃ k, k ≤ 4 ∧ z = nI k) h.kr hk
  · rw [e69]; exact rg_up (P := fun z => ∃ k, k ≤ 999 ∧ z = nI k) h.dr ⟨u, hu, rfl⟩
  · intro i j hij hj
    rcases jc hj with z | z
    · rw [old69 i (by omega), old69 j z]; exact h.ds i j hij z
    · subst z
      by_cases e : i = j
      · subst e; exact Int32.le_refl _
      · rw [n69, old69 i (by omega)]
        have h1 := h.ds i (j - 1) (by omega) (by omega)
        have h2 : m.1 69 (j - 1) ≤ nI u := Int32.not_lt.mp (hday.resolve_left (by omega))
        exact Int32.le_trans h1 h2
  · intro j hj
    rcases jc hj with z | z
    · rw [lo j (by omega), old70 j z, old75 j (by omega)]; exact h.ar j z
    · subst z
      rw [lo j (Nat.le_refl _), n70, old75 j (Nat.le_refl _), lc]
      exact ⟨a, ha, rfl, hat⟩
  · intro j hj
    rcases jc hj with z | z
    · rw [lo j (by omega), old68 j z, old70 j z, old71 j z, old75 j (by omega)]; exact h.br j z
    · subst z
      rw [lo j (Nat.le_refl _), n68, n70, n71, old75 j (Nat.le_refl _), lc]
      intro hk2
      obtain ⟨b1, b2, b3, b4⟩ := hb hk2
      refine ⟨b, b2, b1, b4, ?_⟩
      rw [b1]
      exact fun y => b3 (nI_inj (by omega) (by omega) y)
  · intro j hj
    rcases jc hj with z | z
    · rw [lo j (by omega), old73 j z]; exact h.fr j z
    · subst z
      rw [lo j (Nat.le_refl _), n73, lc]
  · intro j hj
    rcases jc hj with z | z
    · rw [old68 j z, old70 j z, old72 j z, oldG _ j (by omega)]; exact h.sr j z
    · subst z
      rw [n68, n70, n72, oldG _ j (Nat.le_refl _)]
      intro hk0
      obtain ⟨s1, s2, s3⟩ := hs hk0
      exact ⟨s1, s3, s2⟩
  · intro i hi
    rw [o74 i (by omega)]; exact h.o0 i hi
  · intro j hj i hi
    rcases jc hj with z | z
    · rw [o74 _ (by omega), o74 _ (by omega), old68 j z, old70 j z, old71 j z, old72 j z, old73 j z]; exact h.os j z i hi
    · subst z
      rw [n74 i hi, o74 _ (by omega), n68, n70, n71, n72, n73]
  · rw [old75 0 (by omega)]; exact h.t0
  · intro j hj
    rcases jc hj with z | z
    · rw [old75 (j + 1) (by omega), old75 j (by omega), old68 j z, old70 j z, old71 j z, old73 j z]; exact h.ts j z
    · subst z
      rw [n75, old75 j (Nat.le_refl _), n68, n70, n71, n73]
  · intro j hj q hq
    by_cases e : j = c + 1
    · subst e
      rw [f2 (30 + (c + 1)) (by omega) (by omega), row]
      apply b_ext
      intro i hi
      rw [gof_bt _ _ _ g (by omega) i hi]
      have hRb : ∀ x, x < 10 → bt (R x) i = decide (i < g ∧ m.1 74 (8 * c + i) = nI x) := fun x hx => by
        rw [hR x hx, h.rows c (Nat.le_refl _) x hx, gof_bt _ _ _ g (by omega) i hi]
      by_cases ig : i < g
      · obtain ⟨o, o1, o2, -⟩ := h.ow (j := c) (Nat.le_refl _) (i := i) (by omega)
        rw [n74 i (by omega), o2]
        rw [o2] at hRb
        refine row_own hi ha hl (by omega) hq hRb (fun hk0 hbi => ?_) (fun y => ⟨(hb y).1, (hb y).2.1, (hb y).2.2.1⟩)
        have y := gof_in hgl (hs hk0).2.2 hi hbi
        rw [o2] at y
        exact ⟨y.1, nI_inj (by omega) (by omega) y.2⟩
      · have hRb0 : ∀ x, x < 10 → bt (R x) i = decide (i < g ∧ nI 0 = nI x) := fun x hx => by
          rw [hRb x hx]
          exact decide_eq_decide.mpr ⟨fun y => absurd y.1 ig, fun y => absurd y.1 ig⟩
        rw [row_own (o := 0) (bb := bb) hi ha hl (by omega) hq hRb0 (fun hk0 hbi => absurd (gof_in hgl (hs hk0).2.2 hi hbi).1 ig) (fun y => ⟨(hb y).1, (hb y).2.1, (hb y).2.2.1⟩)]
        exact decide_eq_decide.mpr ⟨fun y => absurd y.1 ig, fun y => absurd y.1 ig⟩
    · rw [f2 (30 + j) (by omega) (by omega), fr8 (30 + j) (by omega) (by omega) (by omega) (by omega), oldG _ j (by omega)]
      exact h.rows j (by omega) q hq
  · have := lnF_pos (m.1 68) c
    rw [(o66 0 (by omega)).1]; exact h.f0
  · have := lnF_pos (m.1 68) c
    rw [(o66 0 (by omega)).2]; exact h.cm0
  · intro j hj
    rcases jc hj with z | z
    · rw [lo j (by omega), old68 j z, old69 j z, old70 j z]
      intro hk0
      have h1 : lnF (m.1 68) (j + 1) ≤ lnF (m.1 68) c := lnF_mono _ (by omega)
      have h2 := lnF_s (m.1 68) j
      have h3 : lnF (m.1 68) j < lnF (m.1 68) (j + 1) := by
        rw [h2]
        rcases hk0 with y | y
        · rw [if_pos y]; omega
        · rw [y, if_neg (by decide), if_pos rfl]; omega
      rw [(o66 _ (by omega)).1, (o66 _ (by omega)).2]
      exact h.pf j z hk0
    · subst z
      rw [lo j (Nat.le_refl _), n68, n69, n70, lc]
      intro hk0
      have : 1 ≤ come k := by
        rcases hk0 with y | y
        · rw [y]; decide
        · rw [y]; decide
      exact n66 l (Nat.le_refl _) (by omega)
  · intro j hj
    rcases jc hj with z | z
    · rw [lo j (by omega), old68 j z, old69 j z, old70 j z]
      intro hk0
      have h1 : lnF (m.1 68) (j + 1) ≤ lnF (m.1 68) c := lnF_mono _ (by omega)
      have h2 := lnF_s (m.1 68) j
      have h3 : lnF (m.1 68) j + 2 = lnF (m.1 68) (j + 1) := by
        rw [h2, hk0, if_neg (by decide), if_pos rfl]
      rw [(o66 _ (by omega)).1, (o66 _ (by omega)).2]
      exact h.pf2 j z hk0
    · subst z
      rw [lo j (Nat.le_refl _), n68, n69, n70, lc]
      intro hk0
      have : come k = 2 := by rw [hk0]; rfl
      exact n66 (l + 1) (by omega) (by omega)
  · rw [fr76 106 (by omega), k106, e72, h.sof]
  · intro j hj
    rw [fr76 107 (by omega), k107]
    rcases jc hj with z | z
    · rw [upd_ne _ _ (show j ≠ c by omega), old70 j z, old72 j z, oldG _ j (by omega)]; exact h.soo j z
    · subst z
      rw [upd_eq, n70, n72, oldG _ j (Nat.le_refl _), h.rows j (Nat.le_refl _) a (by omega)]
  · intro q hq
    have ends_o : ∀ j, j < c → (ends m2 j q ↔ ends m j q) := fun j hj => by
      unfold ends
      rw [old68 j hj, old70 j hj, old71 j hj]
    rw [f2 23 (by omega) (by omega)]
    rcases Nat.lt_or_ge q l with z | z
    · rw [o23 q z]
      have endc : ends m2 c q ↔ (k = 1 ∧ q = a) ∨ (k = 2 ∧ q = b) := by
        unfold ends
        rw [n68, n70, n71]
        constructor
        · rintro (⟨y1, y2⟩ | ⟨y1, y2⟩)
          · exact Or.inl ⟨y1, (nI_inj (by omega) (by omega) y2).symm⟩
          · obtain ⟨b1, b2, -, -⟩ := hb (Or.inl y1)
            rw [b1] at y2
            exact Or.inr ⟨y1, (nI_inj (by omega) (by omega) y2).symm⟩
        · rintro (⟨y1, y2⟩ | ⟨y1, y2⟩)
          · exact Or.inl ⟨y1, by rw [y2]⟩
          · exact Or.inr ⟨y1, by rw [(hb (Or.inl y1)).1, y2]⟩
      by_cases e : (k = 1 ∧ q = a) ∨ (k = 2 ∧ q = b)
      · rw [if_pos e]
        exact Or.inr ⟨c, by omega, rfl, endc.mpr e⟩
      · rw [if_neg e]
        rcases h.en q z with ⟨y1, y2⟩ | ⟨j, y1, y2, y3⟩
        · refine Or.inl ⟨y1, fun j hj => ?_⟩
          rcases jc hj with w | w
          · exact fun y => y2 j w ((ends_o j w).mp y)
          · subst w; exact fun y => e (endc.mp y)
        · exact Or.inr ⟨j, by omega, y2, (ends_o j y1).mpr y3⟩
    · refine Or.inl ⟨(n21 q z hq).2.2, fun j hj => ?_⟩
      rcases jc hj with w | w
      · rw [ends_o j w]
        have h1 : lnF (m.1 68) j ≤ lnF (m.1 68) c := lnF_mono _ (by omega)
        rintro (⟨y1, y2⟩ | ⟨y1, y2⟩)
        · obtain ⟨a', a1, a2, -⟩ := h.ar j w
          rw [a2] at y2
          have := nI_inj (by omega) (by omega) y2
          omega
        · obtain ⟨b', b1, b2, -, -⟩ := h.br j w (Or.inl y1)
          rw [b2] at y2
          have := nI_inj (by omega) (by omega) y2
          omega
      · subst w
        unfold ends
        rw [n68, n70, n71]
        rintro (⟨y1, y2⟩ | ⟨y1, y2⟩)
        · have := nI_inj (by omega) (by omega) y2
          omega
        · obtain ⟨b1, b2, -, -⟩ := hb (Or.inl y1)
          rw [b1] at y2
          have := nI_inj (by omega) (by omega) y2
          omega
