/-! loops over changes and grounds -/
theorem nI_mul (a b : Nat) : nI a * nI b = nI (a * b) := (Int32.ofNat_mul a b).symm
theorem fuel_s {f : Nat} (h : 0 < f) : ∃ f', f = f' + 1 := ⟨f - 1, by omega⟩
/-- how many of the first n days are not behind d -/
def cntD (dy : Nat → Int32) (d : Int32) : Nat → Nat
  | 0 => 0
  | n + 1 => cntD dy d n + (if d < dy n then 0 else 1)
theorem cntD_s (dy : Nat → Int32) (d : Int32) (n : Nat) : cntD dy d (n + 1) = cntD dy d n + (if d < dy n then 0 else 1) := rfl
theorem cntD_le (dy : Nat → Int32) (d : Int32) : ∀ n, cntD dy d n ≤ n
  | 0 => Nat.le_refl _
  | n + 1 => by
    have := cntD_le dy d n
    unfold cntD
    split <;> omega
theorem cntD_all {dy : Nat → Int32} {d : Int32} : ∀ {n : Nat}, (∀ j, j < n → ¬ d < dy j) → cntD dy d n = n
  | 0, _ => rfl
  | n + 1, h => by
    unfold cntD
    rw [cntD_all (fun j hj => h j (by omega)), if_neg (h n (by omega))]
theorem cntD_stop {dy : Nat → Int32} {d : Int32} {i : Nat} : ∀ {n : Nat}, i ≤ n → (∀ j, j < i → ¬ d < dy j) → (∀ j, i ≤ j → j < n → d < dy j) → cntD dy d n = i
  | 0, h, h1, _ => by have : i = 0 := by omega
                      subst this; rfl
  | n + 1, h, h1, h2 => by
    rcases Nat.lt_or_ge n i with q | q
    · have : i = n + 1 := by omega
      subst this
      exact cntD_all h1
    · unfold cntD
      rw [cntD_stop q h1 (fun j a b => h2 j a (by omega)), if_pos (h2 n q (by omega))]
      rfl
/-- sorted days -/
def srt (dy : Nat → Int32) (n : Nat) : Prop := ∀ i j, i ≤ j → j < n → dy i ≤ dy j
theorem cntD_iff {dy : Nat → Int32} {d : Int32} : ∀ {n : Nat}, srt dy n → ∀ j, j < n → (j < cntD dy d n ↔ ¬ d < dy j)
  | 0, _, j, hj => absurd hj (Nat.not_lt_zero _)
  | n + 1, hs, j, hj => by
    have hs' : srt dy n := fun a b h1 h2 => hs a b h1 (by omega)
    unfold cntD
    by_cases hd : d < dy n
    · rw [if_pos hd, Nat.add_zero]
      rcases Nat.lt_or_ge j n with q | q
      · exact cntD_iff hs' j q
      · have : j = n := by omega
        subst this
        exact ⟨fun h => absurd h (Nat.not_lt.mpr (cntD_le dy d j)), fun h => absurd hd h⟩
    · have hall : ∀ i, i < n → ¬ d < dy i := fun i hi q => hd (Int32.lt_of_lt_of_le q (hs i n (by omega) (by omega)))
      rw [if_neg hd, cntD_all hall]
      refine ⟨fun _ => ?_, fun _ => by omega⟩
      rcases Nat.lt_or_ge j n with q | q
      · exact hall j q
      · have : j = n := by omega
        subst this
        exact hd
theorem l_doneBy {m : pMem} {n : Nat} (hn : n ≤ 12) (h : m.1 9 6 = nI n) (d : Int32) : ∀ (j i f : Nat), i + j = n → j < f → sX9_doneBy_l4 f d (nI (cntD (m.1 69) d i)) (nI i) m = some (nI (cntD (m.1 69) d n)) := by
  intro j
  induction j with
  | zero =>
    intro i f hij hf
    obtain ⟨f, rfl⟩ := fuel_s hf
    have : i = n := by omega
    subst this
    show sX9_doneBy_b4 _ _ _ _ _ = _
    unfold sX9_doneBy_b4
    rw [if_pos (by rw [h]; exact nI_le (Nat.le_refl _) (by omega))]
  | succ j ih =>
    intro i f hij hf
    obtain ⟨f, rfl⟩ := fuel_s (Nat.lt_of_le_of_lt (Nat.zero_le _) hf)
    show sX9_doneBy_b4 (sX9_doneBy_l4 f) _ _ _ _ = _
    have e := ih (i + 1) f (by omega) (by omega)
    unfold sX9_doneBy_b4
    rw [if_neg (by rw [h]; exact nI_ge (by omega) (by omega)), if_neg (noob (by omega) (by omega)), nI_clamp (by omega)]
    rw [cntD_s] at e
    by_cases hd : d < m.1 69 i
    · rw [if_pos hd] at e ⊢
      unfold sX9_doneBy_b28
      rw [bnd_eq, nI_1]
      rw [Nat.add_zero] at e
      rw [show nI (cntD (m.1 69) d i) + 0 = nI (cntD (m.1 69) d i) from nI_add _ 0]
      exact e
    · rw [if_neg hd] at e ⊢
      unfold sX9_doneBy_b28
      rw [bnd_eq, nI_1, nI_1]
      exact e
theorem p_doneBy {m : pMem} {n : Nat} (hn : n ≤ 12) (h : m.1 9 6 = nI n) (d : Int32) : sX9_doneBy d m = some (nI (cntD (m.1 69) d n)) := l_doneBy hn h d n 0 5000 (by omega) (by omega)
theorem l_changesBy {m : pMem} {n : Nat} (hn : n ≤ 12) (h : m.1 3 12 = nI n) (hs : srt (m.1 25) n) (d : Int32) : ∀ (j i f : Nat), i + j = n → j < f → (∀ k, k < i → ¬ d < m.1 25 k) → sX2_changesBy_l2 f d (nI i) m = some (nI (cntD (m.1 25) d n)) := by
  intro j
  induction j with
  | zero =>
    intro i f hij hf hk
    obtain ⟨f, rfl⟩ := fuel_s hf
    have : i = n := by omega
    subst this
    show sX2_changesBy_b2 _ _ _ _ = _
    unfold sX2_changesBy_b2 sX2_changesBy_b26
    rw [if_pos (by rw [h]; exact nI_le (Nat.le_refl _) (by omega)), cntD_all hk]
  | succ j ih =>
    intro i f hij hf hk
    obtain ⟨f, rfl⟩ := fuel_s (Nat.lt_of_le_of_lt (Nat.zero_le _) hf)
    show sX2_changesBy_b2 (sX2_changesBy_l2 f) _ _ _ = _
    unfold sX2_changesBy_b2 sX2_changesBy_b26
    rw [if_neg (by rw [h]; exact nI_ge (by omega) (by omega)), if_neg (noob (by omega) (by omega)), nI_clamp (by omega)]
    by_cases hd : d < m.1 25 i
    · rw [if_pos hd, cntD_stop (i := i) (by omega) hk (fun a h1 h2 => Int32.lt_of_lt_of_le hd (hs i a h1 h2))]
    · rw [if_neg hd, nI_1]
      exact ih (i + 1) f (by omega) (by omega) (fun k hk1 => by
        rcases Nat.lt_or_ge k i with q | q
        · exact hk k q
        · have : k = i := by omega
          subst this; exact hd)
theorem p_changesBy {m : pMem} {n : Nat} (hn : n ≤ 12) (h : m.1 3 12 = nI n) (hs : srt (m.1 25) n) (d : Int32) : sX2_changesBy d m = some (nI (cntD (m.1 25) d n)) := l_changesBy hn h hs d n 0 5000 (by omega) (by omega) (fun k hk => absurd hk (Nat.not_lt_zero _))
/-- the grounds of a land behind c changes, as bits -/
def gof (ow : Nat → Int32) (l : Int32) (c : Nat) : Nat → Int32
  | 0 => 0
  | g + 1 => gof ow l c g ||| (if ow (8 * c + g) = l then (1 : Int32) <<< (nI g &&& 31) else 0)
theorem gof_s (ow : Nat → Int32) (l : Int32) (c g : Nat) : gof ow l c (g + 1) = (gof ow l c g ||| (if ow (8 * c + g) = l then (1 : Int32) <<< (nI g &&& 31) else 0)) := rfl
theorem gof_bt (ow : Nat → Int32) (l : Int32) (c : Nat) : ∀ (n : Nat), n ≤ 31 → ∀ i, i < 32 → bt (gof ow l c n) i = decide (i < n ∧ ow (8 * c + i) = l)
  | 0, _, i, _ => by simp [gof, b_0]
  | n + 1, hn, i, hi => by
    unfold gof
    rw [b_or, gof_bt ow l c n (by omega) i hi]
    by_cases e : i = n
    · subst e
      by_cases h : ow (8 * c + i) = l
      · rw [if_pos h, b_one i (by omega) hi]; simp [h]
      · rw [if_neg h, b_0]; simp [h]
    · by_cases h : ow (8 * c + n) = l
      · rw [if_pos h, b_one n (by omega) hi]
        simp only [e, decide_false, Bool.or_false]
        exact decide_eq_decide.mpr ⟨fun q => ⟨by omega, q.2⟩, fun q => ⟨by omega, q.2⟩⟩
      · rw [if_neg h, b_0, Bool.or_false]
        exact decide_eq_decide.mpr ⟨fun q => ⟨by omega, q.2⟩, fun q => ⟨by omega, q.2⟩⟩
theorem l_groundsOf {m : pMem} {n c : Nat} (hn : n ≤ 8) (hc : c ≤ 12) (h : m.1 9 0 = nI n) (l : Int32) : ∀ (j i f : Nat), i + j = n → j < f → sX9_groundsOf_l5 f l (nI c) (gof (m.1 74) l c i) (nI i) m = some (gof (m.1 74) l c n) := by
  intro j
  induction j with
  | zero =>
    intro i f hij hf
    obtain ⟨f, rfl⟩ := fuel_s hf
    have : i = n := by omega
    subst this
    show sX9_groundsOf_b5 _ _ _ _ _ _ = _
    unfold sX9_groundsOf_b5
    rw [if_pos (by rw [h]; exact nI_le (Nat.le_refl _) (by omega))]
  | succ j ih =>
    intro i f hij hf
    obtain ⟨f, rfl⟩ := fuel_s (Nat.lt_of_le_of_lt (Nat.zero_le _) hf)
    show sX9_groundsOf_b5 (sX9_groundsOf_l5 f) _ _ _ _ _ = _
    have e := ih (i + 1) f (by omega) (by omega)
    unfold sX9_groundsOf_b5
    rw [if_neg (by rw [h]; exact nI_ge (by omega) (by omega)), show (8 : Int32) * nI c + nI i = nI (8 * c + i) from by rw [show (8 : Int32) = nI 8 from rfl, nI_mul, nI_add], if_neg (noob (by omega) (by omega)), nI_clamp (by omega)]
    rw [gof_s] at e
    by_cases hd : m.1 74 (8 * c + i) = l
    · rw [if_pos hd] at e
      rw [if_neg (not_not_intro hd)]
      unfold sX9_groundsOf_b39
      rw [bnd_eq, nI_1]
      exact e
    · rw [if_neg hd] at e
      rw [if_pos hd]
      unfold sX9_groundsOf_b39
      rw [bnd_eq, nI_1]
      exact e
theorem p_groundsOf {m : pMem} {n c : Nat} (hn : n ≤ 8) (hc : c ≤ 12) (h : m.1 9 0 = nI n) (l : Int32) : sX9_groundsOf l (nI c) m = some (gof (m.1 74) l c n) := l_groundsOf hn hc h l n 0 5000 (by omega) (by omega)
/-- a sum over the bits of a set -/
def sumB (f : Nat → Int32) (s : Int32) : Nat → Int32
  | 0 => 0
  | g + 1 => sumB f s g + (if bt s g = true then f g else 0)
theorem sumB_s (f : Nat → Int32) (s : Int32) (g : Nat) : sumB f s (g + 1) = sumB f s g + (if bt s g = true then f g else 0) := rfl
theorem l_sumOf {m : pMem} {n q : Nat} (hn : n ≤ 8) (h : m.1 3 2 = nI n) (s : Int32) : ∀ (j i f : Nat), i + j = n → j < f → sX2_sumOf_l5 f q s (sumB (m.1 q) s i) (nI i) m = some (sumB (m.1 q) s n) := by
  intro j
  induction j with
  | zero =>
    intro i f hij hf
    obtain ⟨f, rfl⟩ := fuel_s hf
    have : i = n := by omega
    subst this
    show sX2_sumOf_b5 _ _ _ _ _ _ = _
    unfold sX2_sumOf_b5
    rw [if_pos (by rw [h]; exact nI_le (Nat.le_refl _) (by omega))]
  | succ j ih =>
    intro i f hij hf
    obtain ⟨f, rfl⟩ := fuel_s (Nat.lt_of_le_of_lt (Nat.zero_le _) hf)
    show sX2_sumOf_b5 (sX2_sumOf_l5 f) _ _ _ _ _ = _
    have e := ih (i + 1) f (by omega) (by omega)
    unfold sX2_sumOf_b5
    rw [if_neg (by rw [h]; exact nI_ge (by omega) (by omega)), b_ask s i (by omega)]
    rw [sumB_s] at e
    by_cases hd : bt s i = true
    · rw [if_pos hd] at e ⊢
      rw [if_neg (show ¬ (1 : Int32) = 0 by decide), if_neg (noob (by omega) (by omega)), nI_clamp (by omega), bnd_eq]
      unfold sX2_sumOf_b30
      rw [nI_1]
      exact e
    · rw [if_neg hd, Int32.add_zero] at e
      rw [if_neg hd, if_pos rfl]
      unfold sX2_sumOf_b30
      rw [nI_1]
      exact e
theorem p_sumOf {m : pMem} {n : Nat} (hn : n ≤ 8) (h : m.1 3 2 = nI n) (q : Nat) (s : Int32) : sX2_sumOf q s m = some (sumB (m.1 q) s n) := l_sumOf hn h s n 0 5000 (by omega) (by omega)
theorem l_headsOf {m : pMem} {n : Nat} (hn : n ≤ 8) (h : m.1 9 0 = nI n) (s : Int32) : ∀ (j i f : Nat), i + j = n → j < f → sX9_headsOf_l4 f s (sumB (m.1 64) s i) (nI i) m = some (sumB (m.1 64) s n) := by
  intro j
  induction j with
  | zero =>
    intro i f hij hf
    obtain ⟨f, rfl⟩ := fuel_s hf
    have : i = n := by omega
    subst this
    show sX9_headsOf_b4 _ _ _ _ _ = _
    unfold sX9_headsOf_b4
    rw [if_pos (by rw [h]; exact nI_le (Nat.le_refl _) (by omega))]
  | succ j ih =>
    intro i f hij hf
    obtain ⟨f, rfl⟩ := fuel_s (Nat.lt_of_le_of_lt (Nat.zero_le _) hf)
    show sX9_headsOf_b4 (sX9_headsOf_l4 f) _ _ _ _ = _
    have e := ih (i + 1) f (by omega) (by omega)
    unfold sX9_headsOf_b4
    rw [if_neg (by rw [h]; exact nI_ge (by omega) (by omega)), b_ask s i (by omega)]
    rw [sumB_s] at e
    by_cases hd : bt s i = true
    · rw [if_pos hd] at e ⊢
      rw [if_neg (not_not_intro rfl), if_neg (noob (by omega) (by omega)), nI_clamp (by omega)]
      unfold sX9_headsOf_b32
      rw [bnd_eq, nI_1]
      exact e
    · rw [if_neg hd] at e ⊢
      rw [if_pos (by decide)]
      unfold sX9_headsOf_b32
      rw [bnd_eq, nI_1]
      exact e
theorem p_headsOf {m : pMem} {n : Nat} (hn : n ≤ 8) (h : m.1 9 0 = nI n) (s : Int32) : sX9_headsOf s m = some (sumB (m.1 64) s n) := l_headsOf hn h s n 0 5000 (by omega) (by omega)
theorem l_worthOf {m : pMem} {n : Nat} (hn : n ≤ 8) (h : m.1 9 0 = nI n) (s : Int32) : ∀ (j i f : Nat), i + j = n → j < f → sX9_worthOf_l4 f s (sumB (m.1 65) s i) (nI i) m = some (sumB (m.1 65) s n) := by
  intro j
  induction j with
  | zero =>
    intro i f hij hf
    obtain ⟨f, rfl⟩ := fuel_s hf
    have : i = n := by omega
    subst this
    show sX9_worthOf_b4 _ _ _ _ _ = _
    unfold sX9_worthOf_b4
    rw [if_pos (by rw [h]; exact nI_le (Nat.le_refl _) (by omega))]
  | succ j ih =>
    intro i f hij hf
    obtain ⟨f, rfl⟩ := fuel_s (Nat.lt_of_le_of_lt (Nat.zero_le _) hf)
    show sX9_worthOf_b4 (sX9_worthOf_l4 f) _ _ _ _ = _
    have e := ih (i + 1) f (by omega) (by omega)
    unfold sX9_worthOf_b4
    rw [if_neg (by rw [h]; exact nI_ge (by omega) (by omega)), b_ask s i (by omega)]
    rw [sumB_s] at e
    by_cases hd : bt s i = true
    · rw [if_pos hd] at e ⊢
      rw [if_neg (not_not_intro rfl), if_neg (noob (by omega) (by omega)), nI_clamp (by omega)]
      unfold sX9_worthOf_b32
      rw [bnd_eq, nI_1]
      exact e
    · rw [if_neg hd] at e ⊢
      rw [if_pos (by decide)]
      unfold sX9_worthOf_b32
      rw [bnd_eq, nI_1]
      exact e
theorem p_worthOf {m : pMem} {n : Nat} (hn : n ≤ 8) (h : m.1 9 0 = nI n) (s : Int32) : sX9_worthOf s m = some (sumB (m.1 65) s n) := l_worthOf hn h s n 0 5000 (by omega) (by omega)
/-- is a land there -/
abbrev isTh (th a : Int32) (n : Nat) : Prop := inN a n ∧ bt th (nv a) = true
theorem p_isThere2 {m : pMem} {n c : Nat} (hn : n ≤ 10) (hc : c ≤ 12) (h : m.1 3 6 = nI n) (a : Int32) : sX2_isThere a (nI c) m = some (bI (isTh (m.1 43 c) a n)) := by
  unfold sX2_isThere sX2_isThere_b25 sX2_isThere_b26
  rw [p_land2 a m h, cbR_some]
  by_cases ha : inN a n
  · rw [bI_t ha, if_neg (by decide), if_neg (noob (by omega) (by omega)), nI_clamp (by omega)]
    obtain ⟨k, hk, rfl⟩ := (inN_iff (by omega)).mp ha
    rw [p_isIn _ (by omega), cbR_some]
    by_cases hb : bt (m.1 43 c) k = true
    · rw [bI_t hb, if_neg (by decide), nar1, bI_t (⟨ha, by rw [nv_nI (by omega)]; exact hb⟩ : isTh _ _ _)]
    · rw [bI_f hb, if_pos rfl, nar0, bI_f (fun q : isTh _ _ _ => hb (by have := q.2; rw [nv_nI (by omega)] at this; exact this))]
  · rw [bI_f ha, if_pos rfl, nar0, bI_f (fun q : isTh _ _ _ => ha q.1)]
theorem p_isThere9 {m : pMem} {n c : Nat} (hn : n ≤ 10) (hc : c ≤ 12) (hz : ∀ i, n ≤ i → i < 32 → bt (m.1 75 c) i = false) (a : Int32) : sX9_isThere a (nI c) m = some (bI (isTh (m.1 75 c) a n)) := by
  unfold sX9_isThere sX9_isThere_b28 sX9_isThere_b29
  rw [p_in, cbR_some]
  by_cases ha : inR a 0 9
  · obtain ⟨k, hk, rfl⟩ := inR_nat (n := 9) (by decide) ha
    rw [bI_t ha, if_neg (by decide), if_neg (noob (by omega) (by omega)), nI_clamp (by omega), b_ask _ k (by omega)]
    by_cases hb : bt (m.1 75 c) k = true
    · have hkn : k < n := Nat.lt_of_not_le fun q => by rw [hz k q (by omega)] at hb; cases hb
      rw [if_pos hb, if_neg (not_not_intro rfl), nar1, bI_t (⟨(inN_iff (by omega)).mpr ⟨k, hkn, rfl⟩, by rw [nv_nI (by omega)]; exact hb⟩ : isTh _ _ _)]
    · rw [if_neg hb, if_pos (by decide), nar0, bI_f (fun q : isTh _ _ _ => hb (by have := q.2; rw [nv_nI (by omega)] at this; exact this))]
  · rw [bI_f ha, if_pos rfl, nar0, bI_f (fun q : isTh _ _ _ => ha (by
      obtain ⟨k, hk, rfl⟩ := (inN_iff (by omega)).mp q.1
      exact inR_nI (n := 9) (by decide) (by omega)))]
/-- who has a ground: the class looks through the rows -/
theorem l_ownerOf {m : pMem} {n c g ng l0 : Nat} (hn : n ≤ 10) (hc : c ≤ 12) (hg : g < ng) (hng : ng ≤ 8) (h : m.1 3 6 = nI n) (hl0 : l0 < n) (hr : ∀ l, l < n → m.1 (30 + c) l = gof (m.1 74) (nI l) c ng) (ho : m.1 74 (8 * c + g) = nI l0) : ∀ (j i f : Nat), i + j = l0 → j < f → sX2_ownerOf_l2 f (nI g) (nI c) (nI i) m = some (nI l0) := by
  intro j
  induction j with
  | zero =>
    intro i f hij hf
    obtain ⟨f, rfl⟩ := fuel_s hf
    have : i = l0 := by omega
    subst this
    show sX2_ownerOf_b2 _ _ _ _ _ = _
    unfold sX2_ownerOf_b2
    rw [if_neg (by rw [h]; exact nI_ge hl0 (by omega)), if_neg (noob (by omega) (by omega)), if_neg (noob (by omega) (by omega)), nI_clamp (by omega), nI_clamp (by omega), p_isIn _ (by omega), cbR_some, hr i hl0, gof_bt _ _ _ ng (by omega) g (by omega), bI_t (by simp [hg, ho]), if_neg (by decide)]
  | succ j ih =>
    intro i f hij hf
    obtain ⟨f, rfl⟩ := fuel_s (Nat.lt_of_le_of_lt (Nat.zero_le _) hf)
    show sX2_ownerOf_b2 (sX2_ownerOf_l2 f) _ _ _ _ = _
    unfold sX2_ownerOf_b2
    rw [if_neg (by rw [h]; exact nI_ge (by omega) (by omega)), if_neg (noob (by omega) (by omega)), if_neg (noob (by omega) (by omega)), nI_clamp (by omega), nI_clamp (by omega), p_isIn _ (by omega), cbR_some, hr i (by omega), gof_bt _ _ _ ng (by omega) g (by omega), bI_f (by simp only [ho, decide_eq_true_eq]; rintro ⟨-, q⟩; have := nI_inj (by omega) (by omega) q; omega), if_pos rfl, nI_1]
    exact ih (i + 1) f (by omega) (by omega)
theorem p_ownerOf {m : pMem} {n c g ng l0 : Nat} (hn : n ≤ 10) (hc : c ≤ 12) (hg : g < ng) (hng : ng ≤ 8) (h : m.1 3 6 = nI n) (hl0 : l0 < n) (hr : ∀ l, l < n → m.1 (30 + c) l = gof (m.1 74) (nI l) c ng) (ho : m.1 74 (8 * c + g) = nI l0) : sX2_ownerOf (nI g) (nI c) m = some (nI l0) := l_ownerOf hn hc hg hng h hl0 hr ho l0 0 5000 (by omega) (by omega)
