/-! trade: the class -/
/-- the memory with other lands joined and come out -/
def tM (m : pMem) (a b : Int32) : pMem := up1 m 4 (fun j => if j = 10 then a else if j = 11 then b else m.1 4 j)
theorem tM_k (m : pMem) (a b : Int32) {k : Nat} (h : k ≠ 4) : (tM m a b).1 k = m.1 k := if_neg h
theorem tM_4 (m : pMem) (a b : Int32) (j : Nat) : (tM m a b).1 4 j = if j = 10 then a else if j = 11 then b else m.1 4 j := rfl
theorem tM_10 (m : pMem) (a b v : Int32) : st1 (tM m a b) 4 10 v = tM m v b := by
  refine Prod.ext (funext fun k => ?_) rfl
  rw [st1_1]
  by_cases hk : k = 4
  · subst hk
    rw [if_pos rfl]
    funext j
    rw [upd_at, tM_4, tM_4]
    by_cases hj : j = 10
    · rw [if_pos hj, if_pos hj]
    · rw [if_neg hj, if_neg hj, if_neg hj]
  · rw [if_neg hk, tM_k _ _ _ hk, tM_k _ _ _ hk]
theorem tM_11 (m : pMem) (a b v : Int32) : st1 (tM m a b) 4 11 v = tM m a v := by
  refine Prod.ext (funext fun k => ?_) rfl
  rw [st1_1]
  by_cases hk : k = 4
  · subst hk
    rw [if_pos rfl]
    funext j
    rw [upd_at, tM_4, tM_4]
    by_cases hj : j = 10
    · rw [if_neg (by omega), if_pos hj, if_pos hj]
    · rw [if_neg hj, if_neg hj]
      by_cases h2 : j = 11
      · rw [if_pos h2, if_pos h2]
      · rw [if_neg h2, if_neg h2, if_neg h2]
  · rw [if_neg hk, tM_k _ _ _ hk, tM_k _ _ _ hk]
theorem tM_0 (m : pMem) (a b : Int32) : st1 (st1 m 4 10 a) 4 11 b = tM m a b := by
  refine Prod.ext (funext fun k => ?_) rfl
  rw [st1_1]
  by_cases hk : k = 4
  · subst hk
    rw [if_pos rfl]
    funext j
    rw [upd_at, tM_4]
    show (if j = 11 then b else upd (m.1 4) 10 a j) = _
    rw [upd_at]
    by_cases hj : j = 10
    · rw [if_neg (by omega), if_pos hj, if_pos hj]
    · rw [if_neg hj, if_neg hj]
  · rw [if_neg hk, tM_k _ _ _ hk, st1_1, if_neg hk]
section TS
variable {m : pMem} {c g l w : Nat}
theorem IH.upT (h : IH m c g l) (a b : Int32) : IH (tM m a b) c g l := h.congr ⟨rfl, rfl, rfl, rfl, rfl, rfl, rfl, rfl, rfl, rfl, rfl, rfl, rfl, rfl, rfl, rfl, rfl, rfl, rfl, rfl, rfl, rfl, rfl, rfl, rfl, rfl, rfl, rfl, rfl, rfl, rfl, fun j hj => by simp only [tM, up1_1, st1_1, mkM_1]; (repeat rw [if_neg (by omega)])⟩
theorem p_isHeld3 (hw : w ≤ 24) (h8 : m.1 8 5 = nI w) (e1 : m.1 59 = m.1 84) (e2 : m.1 60 = m.1 85) (e3 : m.1 61 = m.1 87) (e4 : m.1 63 = m.1 86) (e5 : m.1 62 = m.1 88) (r : m.1 53 = m.1 78) (cm : m.1 22 = m.1 67) (sg : m.1 45 = m.1 80) {i : Nat} (hi : i < 12) {q : Nat} (hq : q < 10) (D out a b : Int32) : sX3_isHeld (nI i) (nI q) D out (tM m a b) = some (bI (m.1 80 i = nI q ∨ bt b q = true ∨ (bt a q = true ∧ wL m w (nI i) q D out))) := by
  have hb : hldW (nI i) (nI q) D out (tM m a b) = some (bI (wL m w (nI i) q D out)) := p_held8 (m := tM m a b) (w := w) hw h8 e1 e2 e3 e4 e5 r cm (nI i) hq D out
  rw [isHeld_eq]
  unfold sX3_isHeld_b21
  rw [if_neg (noob (by omega) (by omega)), nI_clamp (by omega), tM_k m a b (show 45 ≠ 4 by omega), sg, tM_4, tM_4, if_pos rfl, if_neg (show ¬ 11 = 10 by omega), if_pos rfl, p_isIn _ (by omega), cbR_some, p_isIn _ (by omega), cbR_some, hb]
  by_cases a1 : m.1 80 i = nI q
  · rw [if_pos a1.symm, bI_t (Or.inl a1)]
  · rw [if_neg (fun z => a1 z.symm)]
    by_cases a2 : bt b q = true
    · rw [bI_t a2, if_neg n10, bI_t (Or.inr (Or.inl a2))]
    · rw [bI_f a2, if_pos rfl]
      by_cases a3 : bt a q = true
      · rw [bI_t a3, if_pos n10]
        by_cases a4 : wL m w (nI i) q D out
        · rw [bI_t a4, bI_t (Or.inr (Or.inr ⟨a3, a4⟩))]
        · rw [bI_f a4, bI_f (fun z => z.elim a1 (fun y => y.elim a2 (fun x => a4 x.2)))]
      · rw [bI_f a3, if_neg nn0, bI_f (fun z => z.elim a1 (fun y => y.elim a2 (fun x => a3 x.1)))]
/-- what the class keeps ahead of change j -/
def hSt (m : pMem) (W : Nat → Int32) (j : Nat) (a b : Int32) : Prop := ∀ q, q < 10 → ((bt a q = true ↔ exB (cO m W q) j = true) ∧ (bt b q = true ↔ exB (jO m W q) j = true))
theorem held_iff {W : Nat → Int32} {i j q : Nat} {a b D out ahead : Int32} (hS : hSt m W j a b) (hq : q < 10) (ha : ¬ ahead ≤ m.1 83 i) : (m.1 80 i = nI q ∨ bt b q = true ∨ (bt a q = true ∧ wL m w (nI i) q D out)) ↔ bnB m w W i q D out j ahead := by
  unfold bnB
  rw [exB_hands, (hS q hq).1, (hS q hq).2]
  exact ⟨fun z => z.elim (fun y => Or.inl ⟨y, ha⟩) Or.inr, fun z => z.elim (fun y => Or.inl y.1) Or.inr⟩
theorem p_isHeld (h : IH m c g l) (hw : w ≤ 24) (h8 : m.1 8 5 = nI w) (e1 : m.1 59 = m.1 84) (e2 : m.1 60 = m.1 85) (e3 : m.1 61 = m.1 87) (e4 : m.1 63 = m.1 86) (e5 : m.1 62 = m.1 88) (r : m.1 53 = m.1 78) (sg : m.1 45 = m.1 80) {W : Nat → Int32} {i j : Nat} (hi : i < 12) {q : Nat} (hq : q < l) (D out : Int32) {a b ahead : Int32} (hS : hSt m W j a b) (ha : ¬ ahead ≤ m.1 83 i) : sX3_isHeld (nI i) (nI q) D out (tM m a b) = some (bI (bnB m w W i q D out j ahead)) := by
  have hl := h.lle
  rw [p_isHeld3 hw h8 e1 e2 e3 e4 e5 r h.cam sg hi (by omega)]
  exact congrArg some (bI_congr (held_iff hS (by omega) ha))
theorem hSt_s {W : Nat → Int32} {j : Nat} {a b a' b' : Int32} (hS : hSt m W j a b) (ha : ∀ q, q < 10 → (bt a' q = true ↔ bt a q = true ∨ cO m W q j = true)) (hb : ∀ q, q < 10 → (bt b' q = true ↔ bt b q = true ∨ jO m W q j = true)) : hSt m W (j + 1) a' b' := by
  intro q hq
  rw [exB_s, exB_s, Bool.or_eq_true, Bool.or_eq_true, ha q hq, hb q hq, (hS q hq).1, (hS q hq).2]
  exact ⟨Iff.rfl, Iff.rfl⟩
theorem p_handOn (h : IH m c g l) (hw : w ≤ 24) (h8 : m.1 8 5 = nI w) (e1 : m.1 59 = m.1 84) (e2 : m.1 60 = m.1 85) (e3 : m.1 61 = m.1 87) (e4 : m.1 63 = m.1 86) (e5 : m.1 62 = m.1 88) (r : m.1 53 = m.1 78) (sg : m.1 45 = m.1 80) {i n : Nat} (hi : i < 12) (hn : n < c) (out : Int32) {a b : Int32} (hS : hSt m (wV m w i out) n a b) (ha : ¬ m.1 69 n ≤ m.1 83 i) : ∃ a' b', sX3_handOn (nI i) (nI n) out (tM m a b) = some (0, tM m a' b') ∧ hSt m (wV m w i out) (n + 1) a' b' := by
  have hc := h.cle
  have hl := h.lle
  have hlb := h.lb (j := n + 1) (by omega)
  obtain ⟨hsb, esb⟩ := h.sb hn
  have hh := p_isHeld h hw h8 e1 e2 e3 e4 e5 r sg hi hsb (m.1 69 n) out hS ha
  have hW : ∀ (k : ¬ 3 ≤ m.1 68 n), wV m w i out n = bI (bnB m w (wV m w i out) i (sbj m n) (m.1 69 n) out n (m.1 69 n)) := fun k => by rw [wV_eq m w i out n]; exact bI_congr ⟨fun z => z.2, fun z => ⟨k, z⟩⟩
  have stay : ∀ (z1 : ∀ q, q < 10 → cO m (wV m w i out) q n = false) (z2 : ∀ q, q < 10 → jO m (wV m w i out) q n = false), hSt m (wV m w i out) (n + 1) a b := fun z1 z2 => hSt_s hS (fun q hq => by rw [z1 q hq]; simp) (fun q hq => by rw [z2 q hq]; simp)
  have nj : m.1 68 n ≠ 2 → ∀ q, jO m (wV m w i out) q n = false := fun k q => decide_eq_false (fun z => k z.2.1)
  have nc : ¬ m.1 68 n = 0 → ¬ m.1 68 n = 1 → ∀ q, cO m (wV m w i out) q n = false := fun k0 k1 q => decide_eq_false (fun z => by
    rcases cmB_iff.mp z.2 with ⟨y, -⟩ | ⟨y, -⟩
    · exact k0 y
    · exact k1 y)
  have come : ∀ v : Int32, (∀ q, q < 10 → (bt v q = true ↔ cmB m n q = true)) → m.1 68 n ≠ 2 → ¬ wV m w i out n = 0 → hSt m (wV m w i out) (n + 1) (a ||| v) b := fun v hv k z => hSt_s hS (fun q hq => by
    rw [b_or, Bool.or_eq_true, hv q hq]
    refine or_congr Iff.rfl ⟨fun y => decide_eq_true ⟨z, y⟩, fun y => (of_decide_eq_true y).2⟩) (fun q hq => by rw [nj k q]; simp)
  unfold sX3_handOn sX3_handOn_b33 sX3_handOn_b69 sX3_handOn_b144
  rw [tM_k m a b (show 24 ≠ 4 by omega), tM_k m a b (show 25 ≠ 4 by omega), tM_k m a b (show 26 ≠ 4 by omega), tM_k m a b (show 27 ≠ 4 by omega), tM_k m a b (show 28 ≠ 4 by omega), tM_k m a b (show 53 ≠ 4 by omega), h.knd, h.day, h.fst, h.snd, h.frs, r]
  simp only [if_neg (noob (i := n) (n := 12) (by omega) (by omega)), nI_clamp (show n < 2 ^ 31 by omega), bnd_eq, tM_4, if_true, tM_10, tM_11, show (0 : Int32).toNatClampNeg = 0 from rfl, if_neg (show ¬ (11 : Nat) = 10 by omega)]
  rcases h.kc hn with k | k | k | k | k
  · rw [if_neg (show ¬ m.1 68 n = 2 by rw [k]; decide)] at esb
    rw [if_pos k, esb, hh, cbR_some, if_neg (not_not_intro k), h.fr n hn]
    have hw' := hW (by rw [k]; decide)
    by_cases z : bnB m w (wV m w i out) i (sbj m n) (m.1 69 n) out n (m.1 69 n)
    · rw [bI_t z] at hw'
      rw [bI_t z, if_pos n10]
      refine ⟨_, _, rfl, come _ (fun q hq => ?_) (by rw [k]; decide) (by rw [hw']; decide)⟩
      rw [b_one _ (by have := lnF_mono (m.1 68) (show n ≤ n + 1 by omega); omega) (by omega), cmB_iff]
      unfold cms
      rw [decide_eq_true_eq, k]
      simp
    · rw [bI_f z] at hw'
      rw [bI_f z, if_neg nn0]
      exact ⟨a, b, rfl, stay (fun q hq => decide_eq_false (fun y => y.1 hw')) (fun q hq => nj (by rw [k]; decide) q)⟩
  · rw [if_neg (show ¬ m.1 68 n = 2 by rw [k]; decide)] at esb
    rw [if_neg (show ¬ m.1 68 n = 0 by rw [k]; decide), if_neg (not_not_intro k), esb, hh, cbR_some, if_pos (show ¬ m.1 68 n = 0 by rw [k]; decide), h.fr n hn]
    have hw' := hW (by rw [k]; decide)
    by_cases z : bnB m w (wV m w i out) i (sbj m n) (m.1 69 n) out n (m.1 69 n)
    · rw [bI_t z] at hw'
      rw [bI_t z, if_pos n10]
      refine ⟨_, _, rfl, come _ (fun q hq => ?_) (by rw [k]; decide) (by rw [hw']; decide)⟩
      rw [b_three _ (by have := lnF_mono (m.1 68) (show n ≤ n + 1 by omega); omega) (by omega), cmB_iff]
      unfold cms
      rw [decide_eq_true_eq, k]
      simp
    · rw [bI_f z] at hw'
      rw [bI_f z, if_neg nn0]
      exact ⟨a, b, rfl, stay (fun q hq => decide_eq_false (fun y => y.1 hw')) (fun q hq => nj (by rw [k]; decide) q)⟩
  · rw [if_pos k] at esb
    have n0 : ¬ m.1 68 n = 0 := by rw [k]; decide
    have n1 : ¬ m.1 68 n = 1 := by rw [k]; decide
    rw [if_neg n0, if_pos n1, if_neg (not_not_intro k)]
    by_cases a0 : m.1 78 0 = 0
    · rw [if_neg (not_not_intro a0), esb, hh, cbR_some]
      have hw' := hW (by rw [k]; decide)
      by_cases z : bnB m w (wV m w i out) i (sbj m n) (m.1 69 n) out n (m.1 69 n)
      · rw [bI_t z] at hw'
        rw [bI_t z, if_neg n10]
        obtain ⟨x, hx, ex, -⟩ := h.ar n hn
        rw [ex]
        refine ⟨_, _, rfl, hSt_s hS (fun q hq => by rw [nc n0 n1 q]; simp) (fun q hq => ?_)⟩
        rw [b_or, Bool.or_eq_true, b_one _ (by have := lnF_mono (m.1 68) (show n ≤ n + 1 by omega); omega) (by omega), decide_eq_true_eq]
        refine or_congr Iff.rfl ⟨fun y => decide_eq_true ⟨by rw [hw']; decide, k, by rw [ex, y], a0⟩, fun y => ?_⟩
        have y3 := (of_decide_eq_true y).2.2.1
        rw [ex] at y3
        have hm := lnF_mono (m.1 68) (show n ≤ n + 1 by omega)
        exact (nI_inj (by omega) (by omega) y3).symm
      · rw [bI_f z] at hw'
        rw [bI_f z, if_pos rfl]
        exact ⟨a, b, rfl, stay (fun q hq => nc n0 n1 q) (fun q hq => decide_eq_false (fun y => y.1 hw'))⟩
    · rw [if_pos a0]
      exact ⟨a, b, rfl, stay (fun q hq => nc n0 n1 q) (fun q hq => decide_eq_false (fun y => a0 y.2.2.2))⟩
  · have n0 : ¬ m.1 68 n = 0 := by rw [k]; decide
    have n1 : ¬ m.1 68 n = 1 := by rw [k]; decide
    have n2 : ¬ m.1 68 n = 2 := by rw [k]; decide
    rw [if_neg n0, if_pos n1, if_pos n2]
    exact ⟨a, b, rfl, stay (fun q hq => nc n0 n1 q) (fun q hq => nj n2 q)⟩
  · have n0 : ¬ m.1 68 n = 0 := by rw [k]; decide
    have n1 : ¬ m.1 68 n = 1 := by rw [k]; decide
    have n2 : ¬ m.1 68 n = 2 := by rw [k]; decide
    rw [if_neg n0, if_pos n1, if_pos n2]
    exact ⟨a, b, rfl, stay (fun q hq => nc n0 n1 q) (fun q hq => nj n2 q)⟩
theorem t35_s (f : Nat) : sX3_boundByTrade_l35 (f + 1) = sX3_boundByTrade_b35 (sX3_boundByTrade_l35 f) := rfl
theorem t62_s (f : Nat) : sX3_boundByTrade_l62 (f + 1) = sX3_boundByTrade_b62 (sX3_boundByTrade_l62 f) := rfl
theorem l_tr35 (h : IH m c g l) (hw : w ≤ 24) (h8 : m.1 8 5 = nI w) (e1 : m.1 59 = m.1 84) (e2 : m.1 60 = m.1 85) (e3 : m.1 61 = m.1 87) (e4 : m.1 63 = m.1 86) (e5 : m.1 62 = m.1 88) (r : m.1 53 = m.1 78) (sg : m.1 45 = m.1 80) {i C : Nat} (hi : i < 12) (hC : C ≤ c) (d out : Int32) : ∀ (j n f : Nat), n + j = C → j < f → (∀ x, n ≤ x → x < C → ¬ m.1 69 x ≤ m.1 83 i) → ∀ a b, hSt m (wV m w i out) n a b → ∃ a' b', sX3_boundByTrade_l35 f (nI i) d out (nI C) (nI n) (tM m a b) = sX3_boundByTrade_l62 5000 (nI i) d out (nI C) 0 0 (tM m a' b') ∧ hSt m (wV m w i out) C a' b' := by
  have hc := h.cle
  intro j
  induction j with
  | zero =>
    intro n f hij hf hx a b hS
    obtain ⟨f, rfl⟩ := fuel_s (Nat.lt_of_le_of_lt (Nat.zero_le _) hf)
    have : n = C := by omega
    subst this
    refine ⟨a, b, ?_, hS⟩
    rw [t35_s]
    unfold sX3_boundByTrade_b35
    rw [if_pos (nI_le (Nat.le_refl _) (by omega))]
  | succ j ih =>
    intro n f hij hf hx a b hS
    obtain ⟨f, rfl⟩ := fuel_s (Nat.lt_of_le_of_lt (Nat.zero_le _) hf)
    obtain ⟨a1, b1, z1, z2⟩ := p_handOn h hw h8 e1 e2 e3 e4 e5 r sg hi (n := n) (by omega) out hS (hx n (by omega) (by omega))
    obtain ⟨a2, b2, y1, y2⟩ := ih (n + 1) f (by omega) (by omega) (fun x h1 h2 => hx x (by omega) h2) a1 b1 z2
    refine ⟨a2, b2, ?_, y2⟩
    rw [t35_s]
    unfold sX3_boundByTrade_b35
    rw [if_neg (nI_ge (by omega) (by omega)), z1, cbE_some, nI_1]
    exact y1
theorem l_tr62 (h : IH m c g l) (hw : w ≤ 24) (h8 : m.1 8 5 = nI w) (e1 : m.1 59 = m.1 84) (e2 : m.1 60 = m.1 85) (e3 : m.1 61 = m.1 87) (e4 : m.1 63 = m.1 86) (e5 : m.1 62 = m.1 88) (r : m.1 53 = m.1 78) (sg : m.1 45 = m.1 80) {i C : Nat} (hi : i < 12) (hC : C ≤ c) {d out : Int32} {a b : Int32} (hS : hSt m (wV m w i out) C a b) (hd : ¬ d + 1 ≤ m.1 83 i) : ∀ (j q f : Nat), q + j = l → j < f → sX3_boundByTrade_l62 f (nI i) d out (nI C) (trS m w (wV m w i out) i d out C q) (nI q) (tM m a b) = some (trS m w (wV m w i out) i d out C l, tM m a b) := by
  have hc := h.cle
  have hl := h.lle
  intro j
  induction j with
  | zero =>
    intro q f hij hf
    obtain ⟨f, rfl⟩ := fuel_s (Nat.lt_of_le_of_lt (Nat.zero_le _) hf)
    have : q = l := by omega
    subst this
    rw [t62_s]
    unfold sX3_boundByTrade_b62
    rw [(h.upT a b).l3, if_pos (nI_le (Nat.le_refl _) (by omega))]
  | succ j ih =>
    intro q f hij hf
    obtain ⟨f, rfl⟩ := fuel_s (Nat.lt_of_le_of_lt (Nat.zero_le _) hf)
    have hq : q < l := by omega
    have e := ih (q + 1) f (by omega) (by omega)
    rw [trS_s] at e
    rw [t62_s]
    unfold sX3_boundByTrade_b62 sX3_boundByTrade_b109
    rw [(h.upT a b).l3, if_neg (nI_ge (by omega) (by omega)), (h.upT a b).isThere2 hC, cbR_some, p_isHeld h hw h8 e1 e2 e3 e4 e5 r sg hi hq d out hS hd, cbR_some, tM_k m a b (show 75 ≠ 4 by omega), nI_1, bnd_eq]
    by_cases a1 : bt (m.1 75 C) q = true
    · rw [bI_t ((h.isT hq _).mpr a1), if_neg n10]
      by_cases a2 : bnB m w (wV m w i out) i q d out C (d + 1)
      · rw [bI_t a2, if_neg n10]
        rw [if_pos ⟨a1, a2⟩] at e
        exact e
      · rw [bI_f a2, if_pos rfl]
        rw [if_neg (fun z => a2 z.2), or_0] at e
        exact e
    · rw [bI_f (fun z => a1 ((h.isT hq _).mp z)), if_pos rfl]
      rw [if_neg (fun z => a1 z.1), or_0] at e
      exact e
theorem p_boundByTrade (h : IH m c g l) (hw : w ≤ 24) (h8 : m.1 8 5 = nI w) (e1 : m.1 59 = m.1 84) (e2 : m.1 60 = m.1 85) (e3 : m.1 61 = m.1 87) (e4 : m.1 63 = m.1 86) (e5 : m.1 62 = m.1 88) (r : m.1 53 = m.1 78) (sg : m.1 45 = m.1 80) {i : Nat} (hi : i < 12) {s d : Nat} (es : m.1 83 i = nI s) (e6 : m.1 47 = m.1 83) (hsd : s ≤ d) (hd : d ≤ 999) (out : Int32) : ∃ a b, sX3_boundByTrade (nI i) (nI d) out m = some (trS m w (wV m w i out) i (nI d) out (IHc m c (nI d)) l, tM m a b) := by
  have hc := h.cle
  have hl := h.lle
  have hcd := h.cle' (nI d)
  have hcs := h.cle' (nI s)
  have hle : IHc m c (nI s) ≤ IHc m c (nI d) := by
    rcases Nat.lt_or_ge (IHc m c (nI d)) (IHc m c (nI s)) with z | z
    · have z1 := (cntD_iff h.ds (d := nI s) (IHc m c (nI d)) (by omega)).mp z
      have z2 : ¬ IHc m c (nI d) < IHc m c (nI d) := Nat.lt_irrefl _
      rw [show (IHc m c (nI d) < IHc m c (nI d)) = (IHc m c (nI d) < cntD (m.1 69) (nI d) c) from rfl, cntD_iff h.ds (d := nI d) (IHc m c (nI d)) (by omega)] at z2
      exact absurd (fun y => z1 (Int32.lt_of_le_of_lt (nI_le hsd (by omega)) y)) z2
    · exact z
  have hx : ∀ x, IHc m c (nI s) ≤ x → x < IHc m c (nI d) → ¬ m.1 69 x ≤ m.1 83 i := fun x h1 h2 z => by
    rw [es] at z
    have := (cntD_iff h.ds (d := nI s) x (by omega)).mpr (Int32.not_lt.mpr z)
    exact absurd this (Nat.not_lt.mpr h1)
  have hz : ∀ x, x < IHc m c (nI s) → wV m w i out x = 0 := wV_z (fun x hx => by
    rw [es]
    exact Int32.not_lt.mp ((cntD_iff h.ds (d := nI s) x (by omega)).mp hx))
  have h0 : hSt m (wV m w i out) (IHc m c (nI s)) 0 0 := by
    intro q hq
    rw [b_0]
    refine ⟨⟨fun y => absurd y (by decide), fun y => ?_⟩, ⟨fun y => absurd y (by decide), fun y => ?_⟩⟩
    · obtain ⟨x, hx, ex⟩ := exB_iff.mp y
      exact absurd (hz x hx) (of_decide_eq_true ex).1
    · obtain ⟨x, hx, ex⟩ := exB_iff.mp y
      exact absurd (hz x hx) (of_decide_eq_true ex).1
  obtain ⟨a, b, y1, y2⟩ := l_tr35 h hw h8 e1 e2 e3 e4 e5 r sg hi hcd (nI d) out (IHc m c (nI d) - IHc m c (nI s)) (IHc m c (nI s)) 5000 (by omega) (by omega) hx 0 0 h0
  have hd1 : ¬ nI d + 1 ≤ m.1 83 i := by
    rw [es, nI_1]
    exact nI_ge (by omega) (by omega)
  refine ⟨a, b, ?_⟩
  unfold sX3_boundByTrade
  rw [h.changesBy, cbR_some, bnd_eq, bnd_eq, tM_0, if_neg (noob (by omega) (by omega)), nI_clamp (by omega), tM_k m 0 0 (show 47 ≠ 4 by omega), e6, es, (h.upT 0 0).changesBy, cbR_some]
  exact y1.trans (l_tr62 h hw h8 e1 e2 e3 e4 e5 r sg hi hcd y2 hd1 l 0 5000 (by omega) (by omega))
end TS
