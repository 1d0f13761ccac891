/-! heirs: both loops; who pays; grounds -/
def hfo (m : pMem) (g : Nat) : Nat → Nat → Int32 → Int32
  | 0, _, h => h
  | k + 1, i, h => hfo m g k (i + 1) (if (m.1 68 i = 1 ∧ m.1 70 i = h) ∨ (m.1 68 i = 2 ∧ m.1 71 i = h) then nxt m g i else h)
theorem hfo_s (m : pMem) (g k i : Nat) (h : Int32) : hfo m g (k + 1) i h = hfo m g k (i + 1) (if (m.1 68 i = 1 ∧ m.1 70 i = h) ∨ (m.1 68 i = 2 ∧ m.1 71 i = h) then nxt m g i else h) := rfl
theorem cms_iff (m : pMem) (i q : Nat) : q < lnF (m.1 68) (i + 1) ↔ q < lnF (m.1 68) i ∨ cms m i q := by
  constructor
  · intro h
    rcases Nat.lt_or_ge q (lnF (m.1 68) i) with z | z
    · exact Or.inl z
    · refine Or.inr ?_
      rw [lnF_s] at h
      by_cases k0 : m.1 68 i = 0
      · rw [if_pos k0] at h; exact Or.inl ⟨k0, by omega⟩
      · rw [if_neg k0] at h
        by_cases k1 : m.1 68 i = 1
        · rw [if_pos k1] at h; exact Or.inr ⟨k1, by omega⟩
        · rw [if_neg k1] at h; omega
  · rintro (h | h)
    · exact Nat.lt_of_lt_of_le h (lnF_mono _ (by omega))
    · exact (cms_lt h).2
section HF
variable {m : pMem} {c g l : Nat}
theorem l_heir9 (h : IH m c g l) {c' : Nat} (hc' : c' ≤ c) : ∀ (k i f : Nat) (x : Int32), i + k = c' → k < f → sX9_heirOf_l67 f (nI c') x (nI i) m = some (hfo m g k i x) := by
  have hc := h.cle
  intro k
  induction k with
  | zero =>
    intro i f x hij hf
    obtain ⟨f, rfl⟩ := fuel_s hf
    have : i = c' := by omega
    subst this
    show sX9_heirOf_b67 _ _ _ _ _ = _
    unfold sX9_heirOf_b67
    rw [if_pos (nI_le (Nat.le_refl _) (by omega))]
    rfl
  | succ k ih =>
    intro i f x hij hf
    obtain ⟨f, rfl⟩ := fuel_s (Nat.lt_of_le_of_lt (Nat.zero_le _) hf)
    show sX9_heirOf_b67 (sX9_heirOf_l67 f) _ _ _ _ = _
    have ob := noob (i := i) (n := 12) (by omega) (by omega)
    have cl := nI_clamp (show i < 2 ^ 31 by omega)
    have ih' := fun x => ih (i + 1) f x (by omega) (by omega)
    rw [hfo_s]
    unfold sX9_heirOf_b67 sX9_heirOf_b160 sX9_heirOf_b192 sX9_heirOf_b155 sX9_heirOf_b192
    rw [if_neg (nI_ge (by omega) (by omega))]
    simp only [if_neg ob, cl, nI_1]
    by_cases k1 : m.1 68 i = 1
    · have k2 : ¬ m.1 68 i = 2 := by rw [k1]; decide
      rw [if_neg (not_not_intro k1)]
      by_cases e : m.1 70 i = x
      · rw [if_neg (not_not_intro e), h.groundsOf (by omega), cbR_some, p_headsOf h.gle h.g9, cbR_some, p_headsOf h.gle h.g9, cbR_some, if_pos (Or.inl ⟨k1, e⟩)]
        unfold nxt
        rw [if_pos k1, e]
        by_cases z : sumB (m.1 64) (m.1 72 i) g < sumB (m.1 64) (gof (m.1 74) x i g &&& (m.1 72 i ^^^ (-1 : Int32))) g
        · rw [if_pos z, if_pos z]; exact ih' _
        · rw [if_neg z, if_neg z]; exact ih' _
      · rw [if_pos e, if_pos k2, if_neg (by rintro (⟨-, z⟩ | ⟨z, -⟩); exact e z; exact k2 z)]
        exact ih' _
    · rw [if_pos k1]
      by_cases k2 : m.1 68 i = 2
      · rw [if_neg (not_not_intro k2)]
        by_cases e : m.1 71 i = x
        · rw [if_neg (not_not_intro e), bnd_eq, if_pos (Or.inr ⟨k2, e⟩)]
          unfold nxt
          rw [if_neg k1]
          exact ih' _
        · rw [if_pos e, if_neg (by rintro (⟨z, -⟩ | ⟨-, z⟩); exact k1 z; exact e z)]
          exact ih' _
      · rw [if_pos k2, if_neg (by rintro (⟨z, -⟩ | ⟨z, -⟩); exact k1 z; exact k2 z)]
        exact ih' _
theorem l_come9 (h : IH m c g l) {c' q : Nat} (hc' : c' ≤ c) (hq : q < l) : ∀ (k i f : Nat), i + k = c' → k < f → sX9_heirOf_l20 f (nI q) (nI c') (bI (q < lnF (m.1 68) i)) (nI i) m = some (if q < lnF (m.1 68) c' then hfo m g c' 0 (nI q) else -1) := by
  have hc := h.cle
  intro k
  induction k with
  | zero =>
    intro i f hij hf
    obtain ⟨f, rfl⟩ := fuel_s hf
    have : i = c' := by omega
    subst this
    show sX9_heirOf_b20 _ _ _ _ _ _ = _
    unfold sX9_heirOf_b20
    rw [if_pos (nI_le (Nat.le_refl _) (by omega))]
    by_cases z : q < lnF (m.1 68) i
    · rw [bI_t z, if_pos n10, if_pos z]
      exact l_heir9 h hc' i 0 5000 _ (by omega) (by omega)
    · rw [bI_f z, if_neg nn0, if_neg z]
  | succ k ih =>
    intro i f hij hf
    obtain ⟨f, rfl⟩ := fuel_s (Nat.lt_of_le_of_lt (Nat.zero_le _) hf)
    show sX9_heirOf_b20 (sX9_heirOf_l20 f) _ _ _ _ _ = _
    have ih' := ih (i + 1) f (by omega) (by omega)
    unfold sX9_heirOf_b20 sX9_heirOf_b41 sX9_heirOf_b46
    rw [if_neg (nI_ge (by omega) (by omega)), nI_1]
    by_cases z : q < lnF (m.1 68) i
    · rw [bI_t z, if_pos n10]
      rw [bI_t ((cms_iff m i q).mpr (Or.inl z))] at ih'
      exact ih'
    · rw [bI_f z, if_neg nn0]
      have hdec : Decidable (cms m i q) := by unfold cms; infer_instance
      rw [p_comesBy h (by omega) hq, cbR_some]
      by_cases w : cms m i q
      · rw [bI_t w, if_neg n10]
        rw [bI_t ((cms_iff m i q).mpr (Or.inr w))] at ih'
        exact ih'
      · rw [bI_f w, if_pos rfl]
        rw [bI_f (fun q => ((cms_iff m i _).mp q).elim z w)] at ih'
        exact ih'
theorem p_heirOf9 (h : IH m c g l) {q : Nat} (hq : q < l) (d : Int32) : sX9_heirOf (nI q) d m = some (if q < lnF (m.1 68) (IHc m c d) then hfo m g (IHc m c d) 0 (nI q) else -1) := by
  have hl := h.lle
  have hc := h.cle
  have hcc := h.cle' d
  unfold sX9_heirOf sX9_heirOf_b15
  rw [h.doneBy, cbR_some]
  have e := l_come9 h hcc hq (IHc m c d) 0 5000 (by omega) (by omega)
  by_cases z : q = 0
  · subst z
    rw [if_neg (show ¬ ¬ nI 0 = (0 : Int32) from not_not_intro rfl)]
    rw [bI_t (show 0 < lnF (m.1 68) 0 from Nat.one_pos)] at e
    exact e
  · rw [if_pos (show ¬ nI q = (0 : Int32) from fun w => z (nI_inj (b := 0) (by omega) (by omega) w))]
    rw [bI_f (show ¬ q < lnF (m.1 68) 0 from by unfold lnF; omega)] at e
    exact e
theorem p_nextHeir (h : IH m c g l) {i q : Nat} (hi : i < c) (hq : q < l) (he : ends m i q) : sX2_nextHeir (nI q) m = some (nxt m g i) := by
  have hl := h.lle
  have hc := h.cle
  have hlb := h.lb (j := i) (by omega)
  have hlb1 := h.lb (j := i + 1) (by omega)
  unfold sX2_nextHeir sX2_nextHeir_b75
  have e23 : m.1 23 q = nI i := by
    rcases h.en q hq with ⟨-, z⟩ | ⟨j, hj, e, z⟩
    · exact absurd he (z i hi)
    · rw [e, h.end_1 hj hi (by omega) z he]
  have ob := noob (i := i) (n := 12) (by omega) (by omega)
  have ob1 := noob (i := i + 1) (n := 13) (by omega) (by omega)
  rw [if_neg (noob (i := q) (n := 10) (by omega) (by omega)), nI_clamp (show q < 2 ^ 31 by omega), e23, bnd_eq, if_pos (nI_pos' (by omega))]
  simp only [if_neg ob, nI_clamp (show i < 2 ^ 31 by omega), h.knd, h.fst, h.frs]
  unfold nxt
  by_cases k2 : m.1 68 i = 2
  · rw [if_neg (not_not_intro k2), if_neg (by rw [k2]; decide)]
  · have k1 : m.1 68 i = 1 := by
      rcases he with ⟨z, -⟩ | ⟨z, -⟩
      · exact z
      · exact absurd z k2
    rw [if_pos k2, if_pos k1, h.fr i hi, bnd_eq, p_sumOf h.gle h.g3, cbR_some, p_sumOf h.gle h.g3, cbR_some, h.sof, h.soo i hi, h.heads, nI_1]
    by_cases z : sumB (m.1 64) (m.1 72 i) g < sumB (m.1 64) (gof (m.1 74) (m.1 70 i) i g &&& (m.1 72 i ^^^ (-1 : Int32))) g
    · rw [if_pos z, if_pos z]
    · rw [if_neg z, if_neg z]
theorem l_heir2 (h : IH m c g l) {c' : Nat} (hc' : c' ≤ c) : ∀ (k i s f q : Nat), i + k = c' → s ≤ i → c' - s < f → q < lnF (m.1 68) i → bt (m.1 75 i) q = true → sX2_heirOf_l24 f (nI c') (nI q) (nI s) m = some (hfo m g k i (nI q)) := by
  have hc := h.cle
  intro k
  induction k with
  | zero =>
    intro i s f q hij hs hf hq hb
    obtain ⟨f, rfl⟩ := fuel_s (Nat.lt_of_le_of_lt (Nat.zero_le _) hf)
    have : i = c' := by omega
    subst this
    have hlb := h.lb hc'
    show sX2_heirOf_b24 _ _ _ _ _ = _
    unfold sX2_heirOf_b24 sX2_heirOf_b58
    by_cases z : i ≤ s
    · rw [if_pos (nI_le z (by omega))]; rfl
    · rw [if_neg (nI_ge (by omega) (by omega)), if_neg (noob (by omega) (by omega)), nI_clamp (by omega), p_isIn _ (by omega), cbR_some, h.thr, bI_t hb, if_pos n10]; rfl
  | succ k ih =>
    intro i s f q hij hs hf hq hb
    have hlb := h.lb (j := i) (by omega)
    rw [hfo_s]
    by_cases he : ends m i q
    · rw [if_pos (by unfold ends at he; exact he)]
      obtain ⟨r, hr1, hr2, hr3⟩ := h.nx_th (by omega) he
      obtain ⟨f, rfl⟩ := fuel_s (Nat.lt_of_le_of_lt (Nat.zero_le _) hf)
      show sX2_heirOf_b24 (sX2_heirOf_l24 f) _ _ _ _ = _
      unfold sX2_heirOf_b24 sX2_heirOf_b58
      have hg := h.gone (by omega) (by omega) he c' (by omega) hc'
      rw [if_neg (nI_ge (by omega) (by omega)), if_neg (noob (by omega) (by omega)), nI_clamp (by omega), p_isIn _ (by omega), cbR_some, h.thr, bI_f (by rw [hg]; decide), if_neg nn0, p_nextHeir h (by omega) (by have := h.lnl (j := i) (by omega); omega) he, cbR_some, hr2, nI_1]
      exact ih (i + 1) (s + 1) f r (by omega) (by omega) (by omega) hr1 hr3
    · rw [if_neg (by unfold ends at he; exact he)]
      exact ih (i + 1) s f q (by omega) (by omega) hf (Nat.lt_of_lt_of_le hq (lnF_mono _ (by omega))) ((h.tb (by omega) (by omega)).mpr (Or.inr ⟨hb, he⟩))
theorem hfo_skip (h : IH m c g l) {q : Nat} : ∀ (a b i : Nat), i + a ≤ c → (∀ j, i ≤ j → j < i + a → ¬ ends m j q) → hfo m g (a + b) i (nI q) = hfo m g b (i + a) (nI q)
  | 0, b, i, _, _ => by rw [Nat.zero_add, Nat.add_zero]
  | a + 1, b, i, hc, hn => by
    rw [show a + 1 + b = (a + b) + 1 by omega, hfo_s, if_neg (by have := hn i (Nat.le_refl _) (by omega); unfold ends at this; exact this), hfo_skip h a b (i + 1) (by omega) (fun j h1 h2 => hn j (by omega) (by omega)), show i + 1 + a = i + (a + 1) by omega]
theorem p_heirOf2 (h : IH m c g l) {q d : Nat} (hq : q < l) (hd : d ≤ 999) : sX2_heirOf (nI q) (nI d) m = some (if q < lnF (m.1 68) (IHc m c (nI d)) then hfo m g (IHc m c (nI d)) 0 (nI q) else -1) := by
  have hl := h.lle
  have hc := h.cle
  have hcc := h.cle' (nI d)
  unfold sX2_heirOf
  rw [if_neg (noob (i := q) (n := 10) (by omega) (by omega)), nI_clamp (show q < 2 ^ 31 by omega), h.cam]
  by_cases z : q < lnF (m.1 68) (IHc m c (nI d))
  · rw [if_pos ((h.come hq hd).mpr z), if_pos z, h.changesBy, cbR_some]
    rcases came_by m z with rfl | ⟨j, hj, w⟩
    · exact l_heir2 h hcc (IHc m c (nI d)) 0 0 5000 0 (by omega) (by omega) (by omega) Nat.one_pos (by rw [h.t0]; exact b_1 0 (by omega))
    · have e := l_heir2 h hcc (IHc m c (nI d) - (j + 1)) (j + 1) 0 5000 q (by omega) (by omega) (by omega) (cms_lt w).2 ((h.tb (by omega) (by omega)).mpr (Or.inl w))
      rw [show (0 : Int32) = nI 0 from rfl, e]
      have s := hfo_skip h (q := q) (j + 1) (IHc m c (nI d) - (j + 1)) 0 (by omega) (fun i _ hi he => by
        have := (h.end_th (by omega) (by omega) he).2
        have := (cms_lt w).1
        have := lnF_mono (m.1 68) (show i ≤ j by omega)
        omega)
      rw [show j + 1 + (IHc m c (nI d) - (j + 1)) = IHc m c (nI d) by omega, Nat.zero_add] at s
      rw [s]
  · rw [if_neg (fun w => z ((h.come hq hd).mp w)), if_neg z]
end HF
theorem q_heir {m : pMem} (I : Inv m) (a x : Int32) : ∃ r, sX8_heir a x m = some r ∧ sX9_heir a x m = some r := by
  obtain ⟨c, g, l, p, w, v, d, t, n, b, h, -, -, -⟩ := I
  have hl := h.lle
  unfold sX8_heir sX9_heir sX9_heir_b29
  rw [p_land2 a m h.l3, p_land9 (by omega) a m h.l9, cbR_some, cbR_some]
  by_cases ha : inN a l
  · rw [bI_t ha, if_pos n10, if_pos n10, p_day8, p_day9, cbR_some, cbR_some]
    obtain ⟨q, hq, rfl⟩ := (inN_iff (by omega)).mp ha
    by_cases hd : inR x 0 999
    · obtain ⟨e, he, rfl⟩ := day_of hd
      rw [bI_t hd, if_pos n10, if_neg n10, p_heirOf2 h hq he, p_heirOf9 h hq, cbR_some]
      exact ⟨_, rfl, rfl⟩
    · rw [bI_f hd, if_neg nn0, if_pos rfl]
      exact ⟨_, rfl, rfl⟩
  · rw [bI_f ha, if_neg nn0, if_neg nn0]
    exact ⟨_, rfl, rfl⟩
theorem q_paid {m : pMem} (I : Inv m) (a x : Int32) : ∃ r, sX8_paid a x m = some r ∧ sX9_paid a x m = some r := by
  obtain ⟨c, g, l, p, w, v, d, t, n, b, h, hT, hP, hG⟩ := I
  have hl := h.lle
  have hg := h.gle
  have hn := hG.nle
  unfold sX8_paid sX8_paid_b82 sX9_paid sX9_paid_b89 sX9_paid_b91
  rw [p_pens4 a m hG.n5, p_in, hG.n9, bI_congr (inR_inN (by omega)), cbR_some, cbR_some]
  by_cases ha : inN a n
  · rw [bI_t ha, if_pos n10, if_pos n10, p_day8, p_day9, cbR_some, cbR_some]
    obtain ⟨q, hq, rfl⟩ := (inN_iff (by omega)).mp ha
    have ob := noob (i := q) (n := 12) (by omega) (by omega)
    have cl := nI_clamp (show q < 2 ^ 31 by omega)
    by_cases hd : inR x 0 999
    · obtain ⟨e, he, rfl⟩ := day_of hd
      have hcc := h.cle' (nI e)
      have hc := h.cle
      rw [bI_t hd, if_pos n10, if_pos n10, bnd_eq, h.doneBy, cbR_some, hT.rul, show ((4 : Int32).toNatClampNeg) = 4 from rfl]
      simp only [if_neg ob, cl, hG.nl, hG.nb, hG.nw]
      by_cases r0 : m.1 78 4 = 0
      · rw [if_neg (not_not_intro r0), if_neg (not_not_intro r0)]
        obtain ⟨o, ho, eo⟩ := hG.nlr q hq
        rw [eo, p_heirOf2 h ho he, p_heirOf9 h ho, cbR_some]
        exact ⟨_, rfl, rfl⟩
      · rw [if_pos r0, if_pos r0]
        by_cases r1 : m.1 78 4 = 1
        · rw [if_neg (not_not_intro r1), if_neg (not_not_intro r1)]
          obtain ⟨o, ho, eo⟩ := hG.nwr q hq
          obtain ⟨y, -, y1, -, y2⟩ := h.ownerOf hcc ho
          rw [eo, h.changesBy, cbR_some, y2, cbR_some, ix8, if_neg (noob (by omega) (by omega)), nI_clamp (by omega), y1]
          exact ⟨_, rfl, rfl⟩
        · rw [if_pos r1, if_pos r1]
          obtain ⟨o, ho, eo⟩ := hG.nbr q hq
          obtain ⟨y, -, y1, -, y2⟩ := h.ownerOf hcc ho
          rw [eo, h.changesBy, cbR_some, y2, cbR_some, ix8, if_neg (noob (by omega) (by omega)), nI_clamp (by omega), y1]
          exact ⟨_, rfl, rfl⟩
    · rw [bI_f hd, if_neg nn0, if_neg nn0]
      exact ⟨_, rfl, rfl⟩
  · rw [bI_f ha, if_neg nn0, if_neg nn0]
    exact ⟨_, rfl, rfl⟩
