/-! burdens -/
section BU
variable {m μ : pMem} {c g l d t n b : Nat}
/-- the first x debts -/
def bdS (m : pMem) (c g q : Nat) (u s : Int32) : Nat → Int32
  | 0 => 0
  | x + 1 => bdS m c g q u s x + dbS m c g x q u s
theorem bdS_s (m : pMem) (c g q : Nat) (u s : Int32) (x : Nat) : bdS m c g q u s (x + 1) = bdS m c g q u s x + dbS m c g x q u s := rfl
/-- and the first x things -/
def btS (m : pMem) (c g d q : Nat) (u s : Int32) : Nat → Int32
  | 0 => bdS m c g q u s d
  | x + 1 => if m.1 99 x = 0 then btS m c g d q u s x else btS m c g d q u s x - thS9 m c g x q u s
theorem btS_s (m : pMem) (c g d q : Nat) (u s : Int32) (x : Nat) : btS m c g d q u s (x + 1) = if m.1 99 x = 0 then btS m c g d q u s x else btS m c g d q u s x - thS9 m c g x q u s := rfl
theorem v6'_s (f : Nat) : sX1_burdenOf_l6 (f + 1) = sX1_burdenOf_b6 (sX1_burdenOf_l6 f) := rfl
theorem v38_s (f : Nat) : sX1_burdenOf_l38 (f + 1) = sX1_burdenOf_b38 (sX1_burdenOf_l38 f) := rfl
theorem v69_s (f : Nat) : sX9_burdenOf_l6 (f + 1) = sX9_burdenOf_b6 (sX9_burdenOf_l6 f) := rfl
theorem v389_s (f : Nat) : sX9_burdenOf_l38 (f + 1) = sX9_burdenOf_b38 (sX9_burdenOf_l38 f) := rfl
theorem l_bu38 (h : IH m c g l) (hG : IG m g l d t n) {q u : Nat} (hq : q < l) (hu : u ≤ 999) (s : Int32) : ∀ (j x f : Nat), x + j = t → j < f → ∀ μ, fr m μ → ∃ ν, sX1_burdenOf_l38 f (nI q) (nI u) s (btS m c g d q (nI u) s x) (nI x) μ = some (btS m c g d q (nI u) s t, ν) ∧ fr m ν ∧ ν.1 9 = μ.1 9 := by
  have ht := hG.tle
  intro j
  induction j with
  | zero =>
    intro x f hij hf μ F
    obtain ⟨f, rfl⟩ := fuel_s (Nat.lt_of_le_of_lt (Nat.zero_le _) hf)
    have : x = t := by omega
    subst this
    refine ⟨μ, ?_, F, rfl⟩
    rw [v38_s]
    unfold sX1_burdenOf_b38
    rw [(F.G hG).t2, if_pos (nI_le (Nat.le_refl _) (by omega))]
  | succ j ih =>
    intro x f hij hf μ F
    obtain ⟨f, rfl⟩ := fuel_s (Nat.lt_of_le_of_lt (Nat.zero_le _) hf)
    have hx : x < t := by omega
    have e99 : μ.1 99 = m.1 99 := by
      obtain ⟨e64, e65, e68, e69, e70, e71, e72, e74, e95, e96, e97, e98, e99, e100, e101⟩ := F.toG
      exact e99
    rw [v38_s]
    unfold sX1_burdenOf_b38 sX1_burdenOf_b71
    rw [(F.G hG).t2, if_neg (nI_ge (by omega) (by omega)), if_neg (noob (by omega) (by omega)), nI_clamp (by omega), (F.G hG).tk, e99]
    by_cases z : m.1 99 x = 0
    · obtain ⟨ν, y1, y2, y3⟩ := ih (x + 1) f (by omega) (by omega) μ F
      rw [btS_s, if_pos z] at y1
      rw [if_pos z, nI_1]
      exact ⟨ν, y1, y2, y3⟩
    · obtain ⟨μ1, e1, f1, s1⟩ := k_th1 h hG F hx hq hu s
      obtain ⟨ν, y1, y2, y3⟩ := ih (x + 1) f (by omega) (by omega) μ1 f1
      rw [btS_s, if_neg z] at y1
      rw [if_neg z, e1, cbE_some, bnd_eq, nI_1]
      exact ⟨ν, y1, y2, y3.trans s1⟩
theorem l_bu6 (h : IH m c g l) (hG : IG m g l d t n) {q u : Nat} (hq : q < l) (hu : u ≤ 999) (s : Int32) : ∀ (j x f : Nat), x + j = d → j < f → ∀ μ, fr m μ → ∃ ν, sX1_burdenOf_l6 f (nI q) (nI u) s (bdS m c g q (nI u) s x) (nI x) μ = some (btS m c g d q (nI u) s t, ν) ∧ fr m ν ∧ ν.1 9 = μ.1 9 := by
  have hd := hG.dle
  have ht := hG.tle
  intro j
  induction j with
  | zero =>
    intro x f hij hf μ F
    obtain ⟨f, rfl⟩ := fuel_s (Nat.lt_of_le_of_lt (Nat.zero_le _) hf)
    have : x = d := by omega
    subst this
    rw [v6'_s]
    unfold sX1_burdenOf_b6
    rw [(F.G hG).d2, if_pos (nI_le (Nat.le_refl _) (by omega))]
    exact l_bu38 h hG hq hu s t 0 5000 (by omega) (by omega) μ F
  | succ j ih =>
    intro x f hij hf μ F
    obtain ⟨f, rfl⟩ := fuel_s (Nat.lt_of_le_of_lt (Nat.zero_le _) hf)
    obtain ⟨μ1, e1, f1, s1⟩ := k_db1 h hG F (show x < d by omega) hq hu s
    obtain ⟨ν, y1, y2, y3⟩ := ih (x + 1) f (by omega) (by omega) μ1 f1
    rw [bdS_s] at y1
    rw [v6'_s]
    unfold sX1_burdenOf_b6
    rw [(F.G hG).d2, if_neg (nI_ge (by omega) (by omega)), e1, cbE_some, bnd_eq, nI_1]
    exact ⟨ν, y1, y2, y3.trans s1⟩
theorem k_bu1 (h : IH m c g l) (hG : IG m g l d t n) (F : fr m μ) {q u : Nat} (hq : q < l) (hu : u ≤ 999) (s : Int32) : ∃ ν, sX1_burdenOf (nI q) (nI u) s μ = some (btS m c g d q (nI u) s t, ν) ∧ fr m ν ∧ ν.1 9 = μ.1 9 := l_bu6 h hG hq hu s d 0 5000 (by omega) (by have := hG.dle; omega) μ F
theorem l_bu38' (h : IH m c g l) (hG : IG m g l d t n) {q u : Nat} (hq : q < l) (hu : u ≤ 999) {s : Int32} (hs : s = 0 ∨ s = 1 ∨ s = 2) : ∀ (j x f : Nat), x + j = t → j < f → ∀ μ, fr m μ → ∃ ν, sX9_burdenOf_l38 f (nI q) (nI u) s (btS m c g d q (nI u) s x) (nI x) μ = some (btS m c g d q (nI u) s t, ν) ∧ fr m ν ∧ ν.1 9 = μ.1 9 := by
  have ht := hG.tle
  intro j
  induction j with
  | zero =>
    intro x f hij hf μ F
    obtain ⟨f, rfl⟩ := fuel_s (Nat.lt_of_le_of_lt (Nat.zero_le _) hf)
    have : x = t := by omega
    subst this
    refine ⟨μ, ?_, F, rfl⟩
    rw [v389_s]
    unfold sX9_burdenOf_b38
    rw [(F.G hG).t9, if_pos (nI_le (Nat.le_refl _) (by omega))]
  | succ j ih =>
    intro x f hij hf μ F
    obtain ⟨f, rfl⟩ := fuel_s (Nat.lt_of_le_of_lt (Nat.zero_le _) hf)
    have hx : x < t := by omega
    have e99 : μ.1 99 = m.1 99 := by
      obtain ⟨e64, e65, e68, e69, e70, e71, e72, e74, e95, e96, e97, e98, e99, e100, e101⟩ := F.toG
      exact e99
    rw [v389_s]
    unfold sX9_burdenOf_b38 sX9_burdenOf_b72
    rw [(F.G hG).t9, if_neg (nI_ge (by omega) (by omega)), if_neg (noob (by omega) (by omega)), nI_clamp (by omega), e99]
    by_cases z : m.1 99 x = 0
    · obtain ⟨ν, y1, y2, y3⟩ := ih (x + 1) f (by omega) (by omega) μ F
      rw [btS_s, if_pos z] at y1
      rw [if_neg (not_not_intro z), nI_1, bnd_eq, Int32.sub_zero]
      exact ⟨ν, y1, y2, y3⟩
    · obtain ⟨μ1, e1, f1, s1⟩ := k_th9 h hG F hx hq hu hs
      obtain ⟨ν, y1, y2, y3⟩ := ih (x + 1) f (by omega) (by omega) μ1 f1
      rw [btS_s, if_neg z] at y1
      rw [if_pos z, e1, cbE_some, bnd_eq, nI_1]
      exact ⟨ν, y1, y2, y3.trans s1⟩
theorem l_bu6' (h : IH m c g l) (hG : IG m g l d t n) {q u : Nat} (hq : q < l) (hu : u ≤ 999) {s : Int32} (hs : s = 0 ∨ s = 1 ∨ s = 2) : ∀ (j x f : Nat), x + j = d → j < f → ∀ μ, fr m μ → ∃ ν, sX9_burdenOf_l6 f (nI q) (nI u) s (bdS m c g q (nI u) s x) (nI x) μ = some (btS m c g d q (nI u) s t, ν) ∧ fr m ν ∧ ν.1 9 = μ.1 9 := by
  have hd := hG.dle
  have ht := hG.tle
  intro j
  induction j with
  | zero =>
    intro x f hij hf μ F
    obtain ⟨f, rfl⟩ := fuel_s (Nat.lt_of_le_of_lt (Nat.zero_le _) hf)
    have : x = d := by omega
    subst this
    rw [v69_s]
    unfold sX9_burdenOf_b6
    rw [(F.G hG).d9, if_pos (nI_le (Nat.le_refl _) (by omega))]
    exact l_bu38' h hG hq hu hs t 0 5000 (by omega) (by omega) μ F
  | succ j ih =>
    intro x f hij hf μ F
    obtain ⟨f, rfl⟩ := fuel_s (Nat.lt_of_le_of_lt (Nat.zero_le _) hf)
    obtain ⟨μ1, e1, f1, s1⟩ := k_db9 h hG F (show x < d by omega) hq hu hs
    obtain ⟨ν, y1, y2, y3⟩ := ih (x + 1) f (by omega) (by omega) μ1 f1
    rw [bdS_s] at y1
    rw [v69_s]
    unfold sX9_burdenOf_b6
    rw [(F.G hG).d9, if_neg (nI_ge (by omega) (by omega)), e1, cbE_some, bnd_eq, nI_1]
    exact ⟨ν, y1, y2, y3.trans s1⟩
theorem k_bu9 (h : IH m c g l) (hG : IG m g l d t n) (F : fr m μ) {q u : Nat} (hq : q < l) (hu : u ≤ 999) {s : Int32} (hs : s = 0 ∨ s = 1 ∨ s = 2) : ∃ ν, sX9_burdenOf (nI q) (nI u) s μ = some (btS m c g d q (nI u) s t, ν) ∧ fr m ν ∧ ν.1 9 = μ.1 9 := l_bu6' h hG hq hu hs d 0 5000 (by omega) (by have := hG.dle; omega) μ F
/-- the best of the shares -/
def bsF (m : pMem) (c g d t q : Nat) (u : Int32) : Nat → Int32
  | 0 => 0
  | 1 => 0
  | k + 2 => if btS m c g d q u (bsF m c g d t q u (k + 1)) t ≤ btS m c g d q u (nI (k + 1)) t then bsF m c g d t q u (k + 1) else nI (k + 1)
theorem bsF_s (m : pMem) (c g d t q : Nat) (u : Int32) (k : Nat) : bsF m c g d t q u (k + 2) = if btS m c g d q u (bsF m c g d t q u (k + 1)) t ≤ btS m c g d q u (nI (k + 1)) t then bsF m c g d t q u (k + 1) else nI (k + 1) := rfl
theorem n012 {k : Nat} (h : k ≤ 2) : nI k = 0 ∨ nI k = 1 ∨ nI k = 2 := by
  rcases (show k = 0 ∨ k = 1 ∨ k = 2 by omega) with rfl | rfl | rfl
  · exact Or.inl rfl
  · exact Or.inr (Or.inl rfl)
  · exact Or.inr (Or.inr rfl)
theorem bsF_012 (m : pMem) (c g d t q : Nat) (u : Int32) : ∀ k, k ≤ 3 → bsF m c g d t q u k = 0 ∨ bsF m c g d t q u k = 1 ∨ bsF m c g d t q u k = 2
  | 0, _ => Or.inl rfl
  | 1, _ => Or.inl rfl
  | k + 2, h => by
    rw [bsF_s]
    split
    · exact bsF_012 m c g d t q u (k + 1) (by omega)
    · exact n012 (by omega)
theorem e29_s (f : Nat) : sX8_best_l29 (f + 1) = sX8_best_b29 (sX8_best_l29 f) := rfl
theorem e26_s (f : Nat) : sX9_best_l26 (f + 1) = sX9_best_b26 (sX9_best_l26 f) := rfl
theorem l_be8 (h : IH m c g l) (hG : IG m g l d t n) {q u : Nat} (hq : q < l) (hu : u ≤ 999) : ∀ (j k f : Nat), k + j = 2 → j < f → ∀ μ, fr m μ → ∃ ν, sX8_best_l29 f (nI q) (nI u) (bsF m c g d t q (nI u) (k + 1)) (nI (k + 1)) μ = some (bsF m c g d t q (nI u) 3, ν) ∧ fr m ν ∧ ν.1 9 = μ.1 9 := by
  intro j
  induction j with
  | zero =>
    intro k f hij hf μ F
    obtain ⟨f, rfl⟩ := fuel_s (Nat.lt_of_le_of_lt (Nat.zero_le _) hf)
    have : k = 2 := by omega
    subst this
    refine ⟨μ, ?_, F, rfl⟩
    rw [e29_s]
    unfold sX8_best_b29
    rw [if_pos (show (2 : Int32) < nI (2 + 1) by decide)]
  | succ j ih =>
    intro k f hij hf μ F
    obtain ⟨f, rfl⟩ := fuel_s (Nat.lt_of_le_of_lt (Nat.zero_le _) hf)
    obtain ⟨μ1, e1, f1, s1⟩ := k_bu1 h hG F hq hu (nI (k + 1))
    obtain ⟨μ2, e2, f2, s2⟩ := k_bu1 h hG f1 hq hu (bsF m c g d t q (nI u) (k + 1))
    obtain ⟨ν, y1, y2, y3⟩ := ih (k + 1) f (by omega) (by omega) μ2 f2
    rw [bsF_s] at y1
    rw [e29_s]
    unfold sX8_best_b29 sX8_best_b62
    rw [if_neg (show ¬ (2 : Int32) < nI (k + 1) from nI_nlt (a := 2) (by omega) (by omega)), e1, cbE_some, e2, cbE_some, nI_1]
    by_cases z : btS m c g d q (nI u) (bsF m c g d t q (nI u) (k + 1)) t ≤ btS m c g d q (nI u) (nI (k + 1)) t
    · rw [if_pos z] at y1
      rw [if_pos z]
      exact ⟨ν, y1, y2, y3.trans (s2.trans s1)⟩
    · rw [if_neg z] at y1
      rw [if_neg z]
      exact ⟨ν, y1, y2, y3.trans (s2.trans s1)⟩
theorem l_be9 (h : IH m c g l) (hG : IG m g l d t n) {q u : Nat} (hq : q < l) (hu : u ≤ 999) : ∀ (j k f : Nat), k + j = 2 → j < f → ∀ μ, fr m μ → ∃ ν, sX9_best_l26 f (nI q) (nI u) (bsF m c g d t q (nI u) (k + 1)) (nI (k + 1)) μ = some (bsF m c g d t q (nI u) 3, ν) ∧ fr m ν ∧ ν.1 9 = μ.1 9 := by
  intro j
  induction j with
  | zero =>
    intro k f hij hf μ F
    obtain ⟨f, rfl⟩ := fuel_s (Nat.lt_of_le_of_lt (Nat.zero_le _) hf)
    have : k = 2 := by omega
    subst this
    refine ⟨μ, ?_, F, rfl⟩
    rw [e26_s]
    unfold sX9_best_b26
    rw [if_pos (show (3 : Int32) ≤ nI (2 + 1) by decide)]
  | succ j ih =>
    intro k f hij hf μ F
    obtain ⟨f, rfl⟩ := fuel_s (Nat.lt_of_le_of_lt (Nat.zero_le _) hf)
    obtain ⟨μ1, e1, f1, s1⟩ := k_bu9 h hG F hq hu (n012 (show k + 1 ≤ 2 by omega))
    obtain ⟨μ2, e2, f2, s2⟩ := k_bu9 h hG f1 hq hu (bsF_012 m c g d t q (nI u) (k + 1) (by omega))
    obtain ⟨ν, y1, y2, y3⟩ := ih (k + 1) f (by omega) (by omega) μ2 f2
    rw [bsF_s] at y1
    rw [e26_s]
    unfold sX9_best_b26 sX9_best_b56
    rw [if_neg (show ¬ (3 : Int32) ≤ nI (k + 1) from nI_ge (b := 3) (by omega) (by omega)), e1, cbE_some, e2, cbE_some, nI_1]
    by_cases z : btS m c g d q (nI u) (bsF m c g d t q (nI u) (k + 1)) t ≤ btS m c g d q (nI u) (nI (k + 1)) t
    · rw [if_pos z] at y1
      rw [if_pos z]
      exact ⟨ν, y1, y2, y3.trans (s2.trans s1)⟩
    · rw [if_neg z] at y1
      rw [if_neg z]
      exact ⟨ν, y1, y2, y3.trans (s2.trans s1)⟩
end BU
theorem q_burden {m : pMem} (I : Inv m) (a x s : Int32) : ∃ r m1 m2, sX8_burden a x s m = some (r, m1) ∧ sX9_burden a x s m1 = some (r, m2) ∧ Inv m2 := by
  have I0 := I
  obtain ⟨c, g, l, p, w, v, d, t, n, b, h, hT, hP, hG⟩ := I
  have hl := h.lle
  unfold sX8_burden sX9_burden sX8_burden_b30 sX9_burden_b41 sX9_burden_b43
  by_cases ha : inN a l
  · obtain ⟨q, hq, rfl⟩ := (inN_iff (show l < 2 ^ 31 by omega)).mp ha
    by_cases hd : inR x 0 999
    · obtain ⟨k, hk, rfl⟩ := day_of hd
      by_cases hs : inR s 0 2
      · obtain ⟨j, hj, rfl⟩ := inR_nat (n := 2) (by decide) hs
        obtain ⟨μ, e1, f1, s1⟩ := k_bu1 h hG (fr.rf m) hq hk (nI j)
        obtain ⟨ν, e2, f2, s2⟩ := k_bu9 h hG f1 hq hk (n012 hj)
        refine ⟨(100000 : Int32) + btS m c g d q (nI k) (nI j) t, μ, ν, ?_, ?_, inv_fr I0 f2 (by rw [s2, s1]; exact hP.lft)⟩
        · rw [p_land2 (nI q) m h.l3, cbR_some, bI_t ha, if_pos n10, p_day8, cbR_some, bI_t hd, if_neg n10, if_neg hs.1, if_pos (Int32.not_lt.mp hs.2), e1, cbE_some]
        · rw [p_land9 (show l < 2 ^ 31 by omega) (nI q) μ (f1.H h).l9, cbR_some, bI_t ha, if_pos n10, p_day9, cbR_some, bI_t hd, if_neg n10, p_in, cbR_some, bI_t hs, if_neg n10, e2, cbE_some, Int32.add_comm]
      · refine ⟨-3, m, m, ?_, ?_, I0⟩
        · rw [p_land2 (nI q) m h.l3, cbR_some, bI_t ha, if_pos n10, p_day8, cbR_some, bI_t hd, if_neg n10]
          by_cases z : s < 0
          · rw [if_pos z]
          · rw [if_neg z, if_neg (fun y => hs ⟨z, Int32.not_lt.mpr y⟩)]
        · rw [p_land9 (show l < 2 ^ 31 by omega) (nI q) m h.l9, cbR_some, bI_t ha, if_pos n10, p_day9, cbR_some, bI_t hd, if_neg n10, p_in, cbR_some, bI_f hs, if_pos rfl]
    · refine ⟨-3, m, m, ?_, ?_, I0⟩
      · rw [p_land2 (nI q) m h.l3, cbR_some, bI_t ha, if_pos n10, p_day8, cbR_some, bI_f hd, if_pos rfl]
      · rw [p_land9 (show l < 2 ^ 31 by omega) (nI q) m h.l9, cbR_some, bI_t ha, if_pos n10, p_day9, cbR_some, bI_f hd, if_pos rfl]
  · refine ⟨-2, m, m, ?_, ?_, I0⟩
    · rw [p_land2 a m h.l3, cbR_some, bI_f ha, if_neg nn0]
    · rw [p_land9 (show l < 2 ^ 31 by omega) a m h.l9, cbR_some, bI_f ha, if_neg nn0]
theorem q_best {m : pMem} (I : Inv m) (a x : Int32) : ∃ r m1 m2, sX8_best a x m = some (r, m1) ∧ sX9_best a x m1 = some (r, m2) ∧ Inv m2 := by
  have I0 := I
  obtain ⟨c, g, l, p, w, v, d, t, n, b, h, hT, hP, hG⟩ := I
  have hl := h.lle
  unfold sX8_best sX9_best
  by_cases ha : inN a l
  · obtain ⟨q, hq, rfl⟩ := (inN_iff (show l < 2 ^ 31 by omega)).mp ha
    by_cases hd : inR x 0 999
    · obtain ⟨k, hk, rfl⟩ := day_of hd
      obtain ⟨μ, e1, f1, s1⟩ := l_be8 h hG hq hk 2 0 5000 (by omega) (by omega) m (fr.rf m)
      obtain ⟨ν, e2, f2, s2⟩ := l_be9 h hG hq hk 2 0 5000 (by omega) (by omega) μ f1
      refine ⟨bsF m c g d t q (nI k) 3, μ, ν, ?_, ?_, inv_fr I0 f2 (by rw [s2, s1]; exact hP.lft)⟩
      · rw [p_land2 (nI q) m h.l3, cbR_some, bI_t ha, if_pos n10, p_day8, cbR_some, bI_t hd, if_pos n10]
        exact e1
      · rw [p_land9 (show l < 2 ^ 31 by omega) (nI q) μ (f1.H h).l9, cbR_some, bI_t ha, if_pos n10, p_day9, cbR_some, bI_t hd, if_pos n10]
        exact e2
    · refine ⟨-3, m, m, ?_, ?_, I0⟩
      · rw [p_land2 (nI q) m h.l3, cbR_some, bI_t ha, if_pos n10, p_day8, cbR_some, bI_f hd, if_neg nn0]
      · rw [p_land9 (show l < 2 ^ 31 by omega) (nI q) m h.l9, cbR_some, bI_t ha, if_pos n10, p_day9, cbR_some, bI_f hd, if_neg nn0]
  · refine ⟨-2, m, m, ?_, ?_, I0⟩
    · rw [p_land2 a m h.l3, cbR_some, bI_f ha, if_neg nn0]
    · rw [p_land9 (show l < 2 ^ 31 by omega) a m h.l9, cbR_some, bI_f ha, if_neg nn0]
