/-! things: both sides; the calls -/
section ON
variable {m μ : pMem} {c g l d t n b : Nat}
/-- how many of a thing a land has -/
def thS9 (m : pMem) (c g x q : Nat) (u s : Int32) : Int32 :=
  if m.1 99 x = 0 then (if m.1 74 (8 * IHc m c u + nv (m.1 101 x)) = nI q then 1 else 0)
  else if m.1 99 x = 1 then itS m g s (IHc m c u) 0 (one10 0 (m.1 100 x)) q
  else if abI m g s (IHc m c u) 0 0 = q then 1 else 0
theorem abS_c (e : gB m μ) (g j : Nat) (s : Int32) (o : Nat) : abS μ g j s o = abS m g j s o := by
  have b' := e
  obtain ⟨e64, e65, e68, e69, e70, e71, e72, e74, -⟩ := b'
  unfold abS
  rw [e68, e70, e71, kx_c e, kz_c e]
theorem abI_c (e : gB m μ) (g : Nat) (s : Int32) : ∀ (n i o : Nat), abI μ g s n i o = abI m g s n i o
  | 0, _, _ => rfl
  | n + 1, i, o => by rw [abI_s, abI_s, abS_c e, abI_c e g s n (i + 1)]
theorem thS9_c (e : gB m μ) (c g x q : Nat) (u s : Int32) : thS9 μ c g x q u s = thS9 m c g x q u s := by
  have b' := e
  obtain ⟨e64, e65, e68, e69, e70, e71, e72, e74, e95, e96, e97, e98, e99, e100, e101⟩ := b'
  unfold thS9 IHc
  rw [itS_c e, abI_c e, e69, e74, e99, e100, e101]
theorem abI_lt (h : IH m c g l) (s : Int32) : ∀ (n i o : Nat), i + n ≤ c → o < lnF (m.1 68) i → abI m g s n i o < l
  | 0, i, o, h1, h2 => Nat.lt_of_lt_of_le h2 (h.lnl (by omega))
  | n + 1, i, o, h1, h2 => by
    rw [abI_s]
    exact abI_lt h s n (i + 1) _ (by omega) (abS_lt h (by omega) s h2)
theorem p_owned1 (h : IH m c g l) (hG : IG m g l d t n) {x q u : Nat} (hx : x < t) (hq : q < l) (hu : u ≤ 999) (s : Int32) : ∃ A : Nat → Int32, sX1_ownedBy (nI x) (nI q) (nI u) s m = some (thS9 m c g x q (nI u) s, up1 m 18 A) := by
  have ht := hG.tle
  have hl := h.lle
  have hg := h.gle
  have hc := h.cle
  have hcu := h.cle' (nI u)
  obtain ⟨k, hk, ek⟩ := hG.tkr x hx
  unfold sX1_ownedBy sX1_ownedBy_b43 sX1_ownedBy_b71 thS9
  rw [hG.tk, hG.tm, h.changesBy, cbR_some]
  simp only [if_neg (noob (i := x) (n := 8) (by omega) (by omega)), nI_clamp (show x < 2 ^ 31 by omega)]
  rcases (show k = 0 ∨ k = 1 ∨ k = 2 by omega) with rfl | rfl | rfl
  · have k0 : m.1 99 x = 0 := ek
    obtain ⟨gk, hgk, egk⟩ := hG.tgr x hx k0
    obtain ⟨y, hy, e1, e2, e3⟩ := h.ownerOf hcu hgk
    rw [if_neg (not_not_intro k0), if_pos k0, hG.tp x hx k0, egk, e3, cbR_some, nv_nI (by omega), e1]
    by_cases a2 : nI y = nI q
    · rw [if_neg (not_not_intro a2), if_pos a2]
      exact ⟨m.1 18, by rw [up_id]⟩
    · rw [if_pos a2, if_neg a2]
      exact ⟨m.1 18, by rw [up_id]⟩
  · have k1 : m.1 99 x = 1 := ek
    rw [if_pos (show ¬ m.1 99 x = 0 by rw [k1]; decide), if_pos (show ¬ m.1 99 x = 2 by rw [k1]; decide), if_neg (show ¬ m.1 99 x = 0 by rw [k1]; decide), if_pos k1]
    obtain ⟨A, e1, e2⟩ := p_divide h (a := 0) (by omega) (m.1 100 x) s (i := 0) (C := IHc m c (nI u)) (by omega) hcu
    rw [show sX1_divide 0 (m.1 100 x) 0 (nI (IHc m c (nI u))) s m = _ from e1, cbE_some, if_neg (noob (by omega) (by omega)), nI_clamp (by omega), up_at, e2 q (by omega), Nat.sub_zero]
    exact ⟨A, rfl⟩
  · have k2 : m.1 99 x = 2 := ek
    have e1 : sX1_ownerAbroad (nI (IHc m c (nI u))) s m = some (nI (abI m g s (IHc m c (nI u)) 0 0)) := l_ab5 h s hcu (IHc m c (nI u)) 0 5000 (by omega) (by omega) 0 (lnF_pos _ _)
    have hlt := abI_lt h s (IHc m c (nI u)) 0 0 (by omega) (lnF_pos _ _)
    rw [if_pos (show ¬ m.1 99 x = 0 by rw [k2]; decide), if_neg (not_not_intro k2), if_neg (show ¬ m.1 99 x = 0 by rw [k2]; decide), if_neg (show ¬ m.1 99 x = 1 by rw [k2]; decide), e1, cbR_some]
    by_cases z : abI m g s (IHc m c (nI u)) 0 0 = q
    · rw [if_neg (not_not_intro (show nI (abI m g s (IHc m c (nI u)) 0 0) = nI q by rw [z])), if_pos z]
      exact ⟨m.1 18, by rw [up_id]⟩
    · rw [if_pos (fun y => z ((nI_same (by omega) (by omega)).mp y)), if_neg z]
      exact ⟨m.1 18, by rw [up_id]⟩
theorem w57_s (f : Nat) : sX9_ownsOf_l57 (f + 1) = sX9_ownsOf_b57 (sX9_ownsOf_l57 f) := rfl
theorem l_w57m (h : IH m c g l) {x q : Nat} (hx : x < 8) (hq : q < 10) (k1 : m.1 99 x = 1) {s : Int32} (hs : s = 0 ∨ s = 1 ∨ s = 2) {C : Nat} (hC : C ≤ c) : ∀ (j i f : Nat), i + j = C → j < f → ∀ A : Nat → Int32, sX9_ownsOf_l57 f (nI x) (nI q) s (nI C) (nI i) (up1 m 105 A) = some (itS m g s j i A q, up1 m 105 (itS m g s j i A)) := by
  have hc := h.cle
  intro j
  induction j with
  | zero =>
    intro i f hij hf A
    obtain ⟨f, rfl⟩ := fuel_s (Nat.lt_of_le_of_lt (Nat.zero_le _) hf)
    have : i = C := by omega
    subst this
    rw [w57_s]
    unfold sX9_ownsOf_b57
    rw [if_pos (nI_le (Nat.le_refl _) (by omega)), if_neg (noob (by omega) hq), nI_clamp (by omega), up_at]
    rfl
  | succ j ih =>
    intro i f hij hf A
    obtain ⟨f, rfl⟩ := fuel_s (Nat.lt_of_le_of_lt (Nat.zero_le _) hf)
    rw [w57_s]
    unfold sX9_ownsOf_b57 sX9_ownsOf_b93
    rw [if_neg (nI_ge (by omega) (by omega)), if_neg (noob (by omega) hx), nI_clamp (by omega), show (up1 m 105 A).1 99 = m.1 99 from rfl, if_neg (not_not_intro k1), p_dv9 h (by omega) hs, cbE_some, nI_1, itS_s]
    exact ih (i + 1) f (by omega) (by omega) _
theorem l_w57a (h : IH m c g l) {x q : Nat} (hx : x < 8) (hq : q < 10) (k1 : ¬ m.1 99 x = 1) {s : Int32} (hs : s = 0 ∨ s = 1 ∨ s = 2) {C : Nat} (hC : C ≤ c) : ∀ (j i f : Nat), i + j = C → j < f → ∀ (A : Nat → Int32) (o : Nat), o < lnF (m.1 68) i → al10 A (one10 o 1) → ∃ B : Nat → Int32, sX9_ownsOf_l57 f (nI x) (nI q) s (nI C) (nI i) (up1 m 105 A) = some (B q, up1 m 105 B) ∧ al10 B (one10 (abI m g s j i o) 1) := by
  have hc := h.cle
  intro j
  induction j with
  | zero =>
    intro i f hij hf A o ho hA
    obtain ⟨f, rfl⟩ := fuel_s (Nat.lt_of_le_of_lt (Nat.zero_le _) hf)
    have : i = C := by omega
    subst this
    refine ⟨A, ?_, hA⟩
    rw [w57_s]
    unfold sX9_ownsOf_b57
    rw [if_pos (nI_le (Nat.le_refl _) (by omega)), if_neg (noob (by omega) hq), nI_clamp (by omega), up_at]
  | succ j ih =>
    intro i f hij hf A o ho hA
    obtain ⟨f, rfl⟩ := fuel_s (Nat.lt_of_le_of_lt (Nat.zero_le _) hf)
    obtain ⟨B, e1, e2⟩ := p_ab9 h (j := i) (by omega) hs ho hA
    obtain ⟨D, e3, e4⟩ := ih (i + 1) f (by omega) (by omega) B (abS m g i s o) (abS_lt h (by omega) s ho) e2
    refine ⟨D, ?_, by rw [abI_s]; exact e4⟩
    rw [w57_s]
    unfold sX9_ownsOf_b57 sX9_ownsOf_b93
    rw [if_neg (nI_ge (by omega) (by omega)), if_neg (noob (by omega) hx), nI_clamp (by omega), show (up1 m 105 A).1 99 = m.1 99 from rfl, if_pos k1, e1, cbE_some, nI_1]
    exact e3
theorem p_owned9 (h : IH m c g l) (hG : IG m g l d t n) {x q u : Nat} (hx : x < t) (hq : q < l) (hu : u ≤ 999) {s : Int32} (hs : s = 0 ∨ s = 1 ∨ s = 2) : ∃ A : Nat → Int32, sX9_ownsOf (nI x) (nI q) (nI u) s m = some (thS9 m c g x q (nI u) s, up1 m 105 A) := by
  have ht := hG.tle
  have hl := h.lle
  have hg := h.gle
  have hc := h.cle
  have hcu := h.cle' (nI u)
  obtain ⟨k, hk, ek⟩ := hG.tkr x hx
  obtain ⟨B, e1, e2⟩ := p_bp (a := 0) (by omega) (m.1 100 x) m
  have e1' : sX9_beginPart 0 (m.1 100 x) m = some (0, up1 m 105 B) := e1
  unfold sX9_ownsOf sX9_ownsOf_b42 thS9
  rw [h.doneBy, cbR_some]
  simp only [if_neg (noob (i := x) (n := 8) (by omega) (by omega)), nI_clamp (show x < 2 ^ 31 by omega)]
  rcases (show k = 0 ∨ k = 1 ∨ k = 2 by omega) with rfl | rfl | rfl
  · have k0 : m.1 99 x = 0 := ek
    obtain ⟨gk, hgk, egk⟩ := hG.tgr x hx k0
    obtain ⟨y, hy, e1, e2, e3⟩ := h.ownerOf hcu hgk
    rw [if_neg (not_not_intro k0), if_pos k0, egk, nv_nI (by omega), show (8 : Int32) * nI (IHc m c (nI u)) + nI gk = nI (8 * IHc m c (nI u) + gk) from by rw [show (8 : Int32) = nI 8 from rfl, nI_mul, nI_add], if_neg (noob (by omega) (by omega)), nI_clamp (by omega), e1]
    by_cases a2 : nI y = nI q
    · rw [if_neg (not_not_intro a2), if_pos a2]
      exact ⟨m.1 105, by rw [up_id]⟩
    · rw [if_pos a2, if_neg a2]
      exact ⟨m.1 105, by rw [up_id]⟩
  · have k1 : m.1 99 x = 1 := ek
    have e3 := l_w57m h (x := x) (q := q) (by omega) (by omega) k1 hs hcu (IHc m c (nI u)) 0 5000 (by omega) (by omega) B
    rw [if_pos (show ¬ m.1 99 x = 0 by rw [k1]; decide), if_neg (show ¬ m.1 99 x = 0 by rw [k1]; decide), if_pos k1, e1', cbE_some]
    refine ⟨itS m g s (IHc m c (nI u)) 0 B, e3.trans ?_⟩
    congr 2
    exact itS_al h s _ _ (by omega) e2 q (by omega)
  · have k2 : m.1 99 x = 2 := ek
    have nk1 : ¬ m.1 99 x = 1 := by rw [k2]; decide
    obtain ⟨kk, h1, h2, h3, h4⟩ := hG.tmr x hx
    rw [h4 nk1] at h3
    obtain ⟨D, e3, e4⟩ := l_w57a h (x := x) (q := q) (by omega) (by omega) nk1 hs hcu (IHc m c (nI u)) 0 5000 (by omega) (by omega) B 0 (lnF_pos _ _) (fun y hy => by rw [e2 y hy, h3]; rfl)
    rw [if_pos (show ¬ m.1 99 x = 0 by rw [k2]; decide), if_neg (show ¬ m.1 99 x = 0 by rw [k2]; decide), if_neg nk1, e1', cbE_some]
    refine ⟨D, e3.trans ?_⟩
    rw [e4 q (by omega)]
    unfold one10
    by_cases z : q = abI m g s (IHc m c (nI u)) 0 0
    · rw [if_pos z, if_pos z.symm]
    · rw [if_neg z, if_neg (fun y => z y.symm)]
/-! in any memory that differs in what is written only to be read at once -/
theorem k_db1 (h : IH m c g l) (hG : IG m g l d t n) (f : fr m μ) {x q u : Nat} (hx : x < d) (hq : q < l) (hu : u ≤ 999) (s : Int32) : ∃ ν, sX1_owedBy (nI x) (nI q) (nI u) s μ = some (dbS m c g x q (nI u) s, ν) ∧ fr m ν ∧ ν.1 9 = μ.1 9 := by
  obtain ⟨A, e⟩ := p_owed1 (f.H h) (f.G hG) hx hq hu s
  exact ⟨_, by rw [e, dbS_c f.toG], f.tr (fr.up μ A (by omega)), by rw [up1_1, if_neg (by omega)]⟩
theorem k_db9 (h : IH m c g l) (hG : IG m g l d t n) (f : fr m μ) {x q u : Nat} (hx : x < d) (hq : q < l) (hu : u ≤ 999) {s : Int32} (hs : s = 0 ∨ s = 1 ∨ s = 2) : ∃ ν, sX9_owesOf (nI x) (nI q) (nI u) s μ = some (dbS m c g x q (nI u) s, ν) ∧ fr m ν ∧ ν.1 9 = μ.1 9 := by
  obtain ⟨A, e⟩ := p_owed9 (f.H h) (f.G hG) hx hq hu hs
  exact ⟨_, by rw [e, dbS_c f.toG], f.tr (fr.up μ A (by omega)), by rw [up1_1, if_neg (by omega)]⟩
theorem k_th1 (h : IH m c g l) (hG : IG m g l d t n) (f : fr m μ) {x q u : Nat} (hx : x < t) (hq : q < l) (hu : u ≤ 999) (s : Int32) : ∃ ν, sX1_ownedBy (nI x) (nI q) (nI u) s μ = some (thS9 m c g x q (nI u) s, ν) ∧ fr m ν ∧ ν.1 9 = μ.1 9 := by
  obtain ⟨A, e⟩ := p_owned1 (f.H h) (f.G hG) hx hq hu s
  exact ⟨_, by rw [e, thS9_c f.toG], f.tr (fr.up μ A (by omega)), by rw [up1_1, if_neg (by omega)]⟩
theorem k_th9 (h : IH m c g l) (hG : IG m g l d t n) (f : fr m μ) {x q u : Nat} (hx : x < t) (hq : q < l) (hu : u ≤ 999) {s : Int32} (hs : s = 0 ∨ s = 1 ∨ s = 2) : ∃ ν, sX9_ownsOf (nI x) (nI q) (nI u) s μ = some (thS9 m c g x q (nI u) s, ν) ∧ fr m ν ∧ ν.1 9 = μ.1 9 := by
  obtain ⟨A, e⟩ := p_owned9 (f.H h) (f.G hG) hx hq hu hs
  exact ⟨_, by rw [e, thS9_c f.toG], f.tr (fr.up μ A (by omega)), by rw [up1_1, if_neg (by omega)]⟩
end ON
theorem p_in9 {k : Nat} (hk : k < 2 ^ 31) (a : Int32) (m : pMem) : sX9_in a 0 (nI k - 1) m = some (bI (inN a k)) := by
  rw [p_in, bI_congr (inR_inN hk)]
theorem s012 {m : pMem} {b : Nat} (hT : IT m b) : m.1 78 3 = 0 ∨ m.1 78 3 = 1 ∨ m.1 78 3 = 2 := by
  obtain ⟨k, hk, e⟩ := hT.r3
  rw [e]
  rcases (show k = 0 ∨ k = 1 ∨ k = 2 by omega) with rfl | rfl | rfl
  · exact Or.inl rfl
  · exact Or.inr (Or.inl rfl)
  · exact Or.inr (Or.inr rfl)
theorem q_owes {m : pMem} (I : Inv m) (a x y : Int32) : ∃ r m1 m2, sX8_owes a x y m = some (r, m1) ∧ sX9_owes a x y m1 = some (r, m2) ∧ Inv m2 := by
  have I0 := I
  obtain ⟨c, g, l, p, w, v, d, t, n, b, h, hT, hP, hG⟩ := I
  have hd := hG.dle
  have hl := h.lle
  unfold sX8_owes sX9_owes sX8_owes_b22 sX9_owes_b22 sX9_owes_b50
  by_cases ha : inN a d
  · obtain ⟨i, hi, rfl⟩ := (inN_iff (show d < 2 ^ 31 by omega)).mp ha
    by_cases hx : inN x l
    · obtain ⟨q, hq, rfl⟩ := (inN_iff (show l < 2 ^ 31 by omega)).mp hx
      by_cases hy : inR y 0 999
      · obtain ⟨k, hk, rfl⟩ := day_of hy
        obtain ⟨μ, e1, f1, s1⟩ := k_db1 h hG (fr.rf m) hi hq hk (m.1 78 3)
        obtain ⟨ν, e2, f2, s2⟩ := k_db9 h hG f1 hi hq hk (s012 hT)
        refine ⟨dbS m c g i q (nI k) (m.1 78 3), μ, ν, ?_, ?_, inv_fr I0 f2 (by rw [s2, s1]; exact hP.lft)⟩
        · rw [p_debt1 (nI i) m hG.d2, cbR_some, bI_t ha, if_neg n10, p_land2 (nI q) m h.l3, cbR_some, bI_t hx, if_pos n10, p_day8, cbR_some, bI_t hy, if_pos n10, hT.rul, show (3 : Int32).toNatClampNeg = 3 from rfl, e1, cbE_some]
        · rw [(f1.G hG).d9, p_in9 (by omega), cbR_some, bI_t ha, if_neg n10, p_land9 (show l < 2 ^ 31 by omega) (nI q) μ (f1.H h).l9, cbR_some, bI_t hx, if_pos n10, p_day9, cbR_some, bI_t hy, if_neg n10, f1.toB.c78, show (3 : Int32).toNatClampNeg = 3 from rfl, e2, cbE_some]
      · refine ⟨-3, m, m, ?_, ?_, I0⟩
        · rw [p_debt1 (nI i) m hG.d2, cbR_some, bI_t ha, if_neg n10, p_land2 (nI q) m h.l3, cbR_some, bI_t hx, if_pos n10, p_day8, cbR_some, bI_f hy, if_neg nn0]
        · rw [hG.d9, p_in9 (by omega), cbR_some, bI_t ha, if_neg n10, p_land9 (show l < 2 ^ 31 by omega) (nI q) m h.l9, cbR_some, bI_t hx, if_pos n10, p_day9, cbR_some, bI_f hy, if_pos rfl]
    · refine ⟨-2, m, m, ?_, ?_, I0⟩
      · rw [p_debt1 (nI i) m hG.d2, cbR_some, bI_t ha, if_neg n10, p_land2 x m h.l3, cbR_some, bI_f hx, if_neg nn0]
      · rw [hG.d9, p_in9 (by omega), cbR_some, bI_t ha, if_neg n10, p_land9 (show l < 2 ^ 31 by omega) x m h.l9, cbR_some, bI_f hx, if_neg nn0]
  · refine ⟨-2, m, m, ?_, ?_, I0⟩
    · rw [p_debt1 a m hG.d2, cbR_some, bI_f ha, if_pos rfl]
    · rw [hG.d9, p_in9 (by omega), cbR_some, bI_f ha, if_pos rfl]
theorem q_owns {m : pMem} (I : Inv m) (a x y : Int32) : ∃ r m1 m2, sX8_owns a x y m = some (r, m1) ∧ sX9_owns a x y m1 = some (r, m2) ∧ Inv m2 := by
  have I0 := I
  obtain ⟨c, g, l, p, w, v, d, t, n, b, h, hT, hP, hG⟩ := I
  have ht := hG.tle
  have hl := h.lle
  unfold sX8_owns sX9_owns sX8_owns_b22 sX9_owns_b22 sX9_owns_b50
  by_cases ha : inN a t
  · obtain ⟨i, hi, rfl⟩ := (inN_iff (show t < 2 ^ 31 by omega)).mp ha
    by_cases hx : inN x l
    · obtain ⟨q, hq, rfl⟩ := (inN_iff (show l < 2 ^ 31 by omega)).mp hx
      by_cases hy : inR y 0 999
      · obtain ⟨k, hk, rfl⟩ := day_of hy
        obtain ⟨μ, e1, f1, s1⟩ := k_th1 h hG (fr.rf m) hi hq hk (m.1 78 3)
        obtain ⟨ν, e2, f2, s2⟩ := k_th9 h hG f1 hi hq hk (s012 hT)
        refine ⟨thS9 m c g i q (nI k) (m.1 78 3), μ, ν, ?_, ?_, inv_fr I0 f2 (by rw [s2, s1]; exact hP.lft)⟩
        · rw [p_thing1 (nI i) m hG.t2, cbR_some, bI_t ha, if_neg n10, p_land2 (nI q) m h.l3, cbR_some, bI_t hx, if_pos n10, p_day8, cbR_some, bI_t hy, if_pos n10, hT.rul, show (3 : Int32).toNatClampNeg = 3 from rfl, e1, cbE_some]
        · rw [(f1.G hG).t9, p_in9 (by omega), cbR_some, bI_t ha, if_neg n10, p_land9 (show l < 2 ^ 31 by omega) (nI q) μ (f1.H h).l9, cbR_some, bI_t hx, if_pos n10, p_day9, cbR_some, bI_t hy, if_neg n10, f1.toB.c78, show (3 : Int32).toNatClampNeg = 3 from rfl, e2, cbE_some]
      · refine ⟨-3, m, m, ?_, ?_, I0⟩
        · rw [p_thing1 (nI i) m hG.t2, cbR_some, bI_t ha, if_neg n10, p_land2 (nI q) m h.l3, cbR_some, bI_t hx, if_pos n10, p_day8, cbR_some, bI_f hy, if_neg nn0]
        · rw [hG.t9, p_in9 (by omega), cbR_some, bI_t ha, if_neg n10, p_land9 (show l < 2 ^ 31 by omega) (nI q) m h.l9, cbR_some, bI_t hx, if_pos n10, p_day9, cbR_some, bI_f hy, if_pos rfl]
    · refine ⟨-2, m, m, ?_, ?_, I0⟩
      · rw [p_thing1 (nI i) m hG.t2, cbR_some, bI_t ha, if_neg n10, p_land2 x m h.l3, cbR_some, bI_f hx, if_neg nn0]
      · rw [hG.t9, p_in9 (by omega), cbR_some, bI_t ha, if_neg n10, p_land9 (show l < 2 ^ 31 by omega) x m h.l9, cbR_some, bI_f hx, if_neg nn0]
  · refine ⟨-2, m, m, ?_, ?_, I0⟩
    · rw [p_thing1 a m hG.t2, cbR_some, bI_f ha, if_pos rfl]
    · rw [hG.t9, p_in9 (by omega), cbR_some, bI_f ha, if_pos rfl]
