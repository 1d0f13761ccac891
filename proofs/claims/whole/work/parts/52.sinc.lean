/-! on a day that is not marked nothing turns -/
theorem lat_congr {P Q : Nat → Bool} {D : Nat → Int32} : ∀ {n : Nat}, (∀ i, i < n → P i = Q i) → lat P D n = lat Q D n
  | 0, _ => rfl
  | n + 1, h => by rw [lat_s, lat_s, lat_congr (fun i hi => h i (by omega)), h n (by omega)]
theorem cntD_congr {dy : Nat → Int32} {d d' : Int32} : ∀ {n : Nat}, (∀ i, i < n → (d < dy i ↔ d' < dy i)) → cntD dy d n = cntD dy d' n
  | 0, _ => rfl
  | n + 1, h => by
    rw [cntD_s, cntD_s, cntD_congr (fun i hi => h i (by omega))]
    by_cases z : d < dy n
    · rw [if_pos z, if_pos ((h n (by omega)).mp z)]
    · rw [if_neg z, if_neg (fun y => z ((h n (by omega)).mpr y))]
section UM
variable {m : pMem} {c g l p w v : Nat}
/-- no day that counts lies between -/
def quiet (m : pMem) (c p w v : Nat) (d e : Int32) : Prop := (∀ j, j < c → (d < m.1 69 j ↔ e < m.1 69 j)) ∧ (∀ i, i < p → (d < m.1 83 i ↔ e < m.1 83 i)) ∧ (∀ i, i < w → (d < m.1 86 i ↔ e < m.1 86 i)) ∧ (∀ i, i < v → (d < m.1 91 i ↔ e < m.1 91 i))
theorem wL_q {d e : Int32} (hw : ∀ i, i < w → (d < m.1 86 i ↔ e < m.1 86 i)) (P : Int32) (Q : Nat) (out : Int32) : wL m w P Q d out ↔ wL m w P Q e out := by
  have z : ∀ t, lat (PW m P (nI Q) t d out) (m.1 86) w = lat (PW m P (nI Q) t e out) (m.1 86) w := fun t => lat_congr (fun i hi => by
    unfold PW
    exact decide_eq_decide.mpr (by rw [hw i hi]))
  unfold wL wR
  rw [z 0, z 1]
theorem hands_q {d e : Int32} (hw : ∀ i, i < w → (d < m.1 86 i ↔ e < m.1 86 i)) (W : Nat → Int32) (P : Int32) (q : Nat) (out : Int32) : hands m w W P q d out = hands m w W P q e out := by
  funext i
  unfold hands
  exact decide_eq_decide.mpr (and_congr Iff.rfl (or_congr Iff.rfl (and_congr Iff.rfl (wL_q hw P q out))))
theorem trS_q {d e : Int32} {i : Nat} (hw : ∀ i, i < w → (d < m.1 86 i ↔ e < m.1 86 i)) (h1 : d + 1 ≤ m.1 83 i ↔ e + 1 ≤ m.1 83 i) (W : Nat → Int32) (out : Int32) (C : Nat) : ∀ q, trS m w W i d out C q = trS m w W i e out C q
  | 0 => rfl
  | q + 1 => by
    rw [trS_s, trS_s, trS_q hw h1 W out C q]
    congr 1
    refine if_cg (and_congr Iff.rfl ?_)
    unfold bnB
    rw [hands_q hw, h1]
theorem vS_q {d e : Int32} (hv : ∀ i, i < v → (d < m.1 91 i ↔ e < m.1 91 i)) (x : Int32) : ∀ n, vS m v x d n = vS m v x e n
  | 0 => rfl
  | n + 1 => by
    rw [vS_s, vS_s, vS_q hv x n, lat_congr (P := PV m (nI n) x d) (Q := PV m (nI n) x e) (fun i hi => by
      unfold PV
      exact decide_eq_decide.mpr (by rw [hv i hi]))]
theorem rkF_q {d e : Int32} (hv : ∀ i, i < v → (d < m.1 91 i ↔ e < m.1 91 i)) (C i : Nat) : ∀ j q, rkF m v C i d j q = rkF m v C i e j q
  | 0, _ => rfl
  | j + 1, q => by
    have z : rkC m v C i d q = rkC m v C i e q := by
      unfold rkC
      rw [vS_q hv]
    rw [rkF_s, rkF_s, rkF_q hv C i j (q + 1), z]
theorem lt1 {d s : Nat} (hd : d < 2 ^ 30) (hs : s < 2 ^ 30) : nI d + 1 ≤ nI s ↔ nI d < nI s := by
  rw [nI_1, le_iff (by omega) (by omega), lt_iff (by omega) (by omega)]
  omega
theorem bS_q (hP : IQ m c g l p w v) {i d e : Nat} (hi : i < p) (hd : d ≤ 999) (he : e ≤ 999) (q : quiet m c p w v (nI d) (nI e)) (out : Int32) : bS m c l w v i (nI d) out = bS m c l w v i (nI e) out := by
  obtain ⟨q1, q2, q3, q4⟩ := q
  have ec : IHc m c (nI d) = IHc m c (nI e) := cntD_congr q1
  obtain ⟨s, hs, es⟩ := hP.dr i hi
  have e1 : nI d + 1 ≤ m.1 83 i ↔ nI e + 1 ≤ m.1 83 i := by
    have z := q2 i hi
    rw [es] at z ⊢
    rw [lt1 (by omega) (by omega), lt1 (by omega) (by omega)]
    exact z
  unfold bS
  rw [ec, rkF_q q4, trS_q q3 e1]
  by_cases a0 : nI d < m.1 83 i
  · rw [if_pos a0, if_pos ((q2 i hi).mp a0)]
  · rw [if_neg a0, if_neg (fun z => a0 ((q2 i hi).mpr z))]
theorem quiet_um (hP : IQ m c g l p w v) (h : IH m c g l) {d : Nat} (hd : d + 1 ≤ 999) (hm : ¬ mkd m (d + 1)) : quiet m c p w v (nI (d + 1)) (nI d) := by
  have key : ∀ x : Int32, (∃ k, k ≤ 999 ∧ x = nI k) → (∀ k, k ≤ 999 → x = nI k → mkd m k) → (nI (d + 1) < x ↔ nI d < x) := by
    rintro x ⟨k, hk, rfl⟩ z
    have ne : k ≠ d + 1 := fun y => hm (by rw [← y]; exact z k hk rfl)
    rw [lt_iff (by omega) (by omega), lt_iff (by omega) (by omega)]
    omega
  exact ⟨fun j hj => key _ (h.dr j hj) (hP.mc j hj), fun i hi => key _ (hP.dr i hi) (hP.mp i hi), fun i hi => key _ (hP.wdr i hi) (hP.mw i hi), fun i hi => key _ (hP.vdr i hi) (hP.mv i hi)⟩
theorem bS_um (hP : IQ m c g l p w v) (h : IH m c g l) {i d : Nat} (hi : i < p) (hd : d + 1 ≤ 999) (hm : ¬ mkd m (d + 1)) (out : Int32) : bS m c l w v i (nI (d + 1)) out = bS m c l w v i (nI d) out := bS_q hP hi hd (by omega) (quiet_um hP h hd hm) out
theorem bS_ahead {i d s : Nat} (es : m.1 83 i = nI s) (hs : s ≤ 999) (hd : d < s) (out : Int32) : bS m c l w v i (nI d) out = 0 := by
  unfold bS
  rw [if_pos (by rw [es]; exact nI_lt hd (by omega))]
/-- the first day on which a land is bound, from a day on -/
def sF (m : pMem) (c l w v i q : Nat) : Nat → Nat → Int32
  | 0, _ => -1
  | j + 1, d => if bt (bS m c l w v i (nI d) 0) q = true then nI d else sF m c l w v i q j (d + 1)
theorem sF_s (m : pMem) (c l w v i q j d : Nat) : sF m c l w v i q (j + 1) d = if bt (bS m c l w v i (nI d) 0) q = true then nI d else sF m c l w v i q j (d + 1) := rfl
theorem sF_skip {i q : Nat} : ∀ (k d j : Nat), (∀ x, x < k → ¬ bt (bS m c l w v i (nI (d + x)) 0) q = true) → sF m c l w v i q (k + j) d = sF m c l w v i q j (d + k)
  | 0, d, j, _ => by rw [Nat.zero_add, Nat.add_zero]
  | k + 1, d, j, h => by
    have h0 := h 0 (by omega)
    rw [Nat.add_zero] at h0
    rw [show k + 1 + j = (k + j) + 1 by omega, sF_s, if_neg h0, sF_skip k (d + 1) j (fun x hx => by
      have := h (x + 1) (by omega)
      rw [show d + (x + 1) = d + 1 + x by omega] at this
      exact this), show d + 1 + k = d + (k + 1) by omega]
theorem s8_s (f : Nat) : sX8_since_l27 (f + 1) = sX8_since_b27 (sX8_since_l27 f) := rfl
theorem s9_s (f : Nat) : sX9_since_l26 (f + 1) = sX9_since_b26 (sX9_since_l26 f) := rfl
variable {b : Nat}
theorem l_sin9 (h : IH m c g l) (hP : IQ m c g l p w v) {i q : Nat} (hi : i < p) (hq : q < l) : ∀ (j d f : Nat), d + j = 1000 → j < f → ∀ μ, fr m μ → μ.1 9 38 = 0 → ∃ ν, sX9_since_l26 f (nI i) (nI q) (nI d) μ = some (sF m c l w v i q j d, ν) ∧ fr m ν ∧ ν.1 9 38 = 0 := by
  have hl := h.lle
  intro j
  induction j with
  | zero =>
    intro d f hij hf μ F e
    obtain ⟨f, rfl⟩ := fuel_s (Nat.lt_of_le_of_lt (Nat.zero_le _) hf)
    have : d = 1000 := by omega
    subst this
    refine ⟨μ, ?_, F, e⟩
    rw [s9_s]
    unfold sX9_since_b26
    rw [if_pos (show (1000 : Int32) ≤ nI 1000 by decide)]
    rfl
  | succ j ih =>
    intro d f hij hf μ F e
    obtain ⟨f, rfl⟩ := fuel_s (Nat.lt_of_le_of_lt (Nat.zero_le _) hf)
    obtain ⟨μ1, e1, f1, s1⟩ := k_of h hP F hi (show d ≤ 999 by omega) e
    have e' : μ1.1 9 38 = 0 := by rw [s1 9 (by omega)]; exact e
    rw [s9_s]
    unfold sX9_since_b26
    rw [if_neg (show ¬ (1000 : Int32) ≤ nI d from nI_ge (b := 1000) (by omega) (by omega)), e1, cbE_some, b_ask _ q (by omega), sF_s]
    by_cases z : bt (bS m c l w v i (nI d) 0) q = true
    · rw [if_pos z, if_pos z, if_neg (not_not_intro rfl)]
      exact ⟨μ1, rfl, f1, e'⟩
    · rw [if_neg z, if_neg z, if_pos (show ¬ (0 : Int32) = 1 by decide), nI_1]
      exact ih (d + 1) f (by omega) (by omega) μ1 f1 e'
theorem l_sin8 (h : IH m c g l) (hT : IT m b) (hP : IQ m c g l p w v) {i q : Nat} (hi : i < p) (hq : q < l) : ∀ (j d f : Nat), d + j = 1000 → j < f → (d = 0 ∨ ¬ bt (bS m c l w v i (nI (d - 1)) 0) q = true) → ∀ μ, fr m μ → μ.1 9 = m.1 9 → ∃ ν, sX8_since_l27 f (nI i) (nI q) (nI d) μ = some (sF m c l w v i q j d, ν) ∧ fr m ν ∧ ν.1 9 = m.1 9 := by
  have hl := h.lle
  intro j
  induction j with
  | zero =>
    intro d f hij hf hz μ F e
    obtain ⟨f, rfl⟩ := fuel_s (Nat.lt_of_le_of_lt (Nat.zero_le _) hf)
    have : d = 1000 := by omega
    subst this
    refine ⟨μ, ?_, F, e⟩
    rw [s8_s]
    unfold sX8_since_b27
    rw [if_pos (show (999 : Int32) < nI 1000 by decide)]
    rfl
  | succ j ih =>
    intro d f hij hf hz μ F e
    obtain ⟨f, rfl⟩ := fuel_s (Nat.lt_of_le_of_lt (Nat.zero_le _) hf)
    have dm : Decidable (mkd μ d) := by unfold mkd; infer_instance
    have em : mkd μ d ↔ mkd m d := by unfold mkd; rw [F.2.2.2.2.2]
    rw [s8_s]
    unfold sX8_since_b27 sX8_since_b64
    rw [if_neg (show ¬ (999 : Int32) < nI d from nI_nlt (a := 999) (by omega) (by omega)), p_isMarked (show d ≤ 999 by omega), cbR_some]
    by_cases a : mkd m d
    · obtain ⟨μ1, e1, f1, s1⟩ := k_on h hT hP F hi (show d ≤ 999 by omega) 0
      have e' : μ1.1 9 = m.1 9 := by rw [s1 9 (by omega)]; exact e
      rw [bI_t (em.mpr a), if_neg n10, e1, cbE_some, p_isIn _ (by omega), cbR_some, sF_s]
      by_cases z : bt (bS m c l w v i (nI d) 0) q = true
      · rw [bI_t z, if_neg n10, if_pos z]
        exact ⟨μ1, rfl, f1, e'⟩
      · rw [bI_f z, if_pos rfl, if_neg z, nI_1]
        exact ih (d + 1) f (by omega) (by omega) (Or.inr z) μ1 f1 e'
    · have z : ¬ bt (bS m c l w v i (nI d) 0) q = true := by
        rcases Nat.eq_zero_or_pos d with z0 | z0
        · obtain ⟨s, hs, es⟩ := hP.dr i hi
          have : s ≠ d := fun y => a (by rw [← y]; exact hP.mp i hi s hs es)
          rw [bS_ahead es hs (by omega), b_0]
          decide
        · obtain ⟨k, rfl⟩ : ∃ k, d = k + 1 := ⟨d - 1, by omega⟩
          rw [bS_um hP h hi (by omega) a]
          exact hz.resolve_left (by omega)
      rw [bI_f (fun y => a (em.mp y)), if_pos rfl, sF_s, if_neg z, nI_1]
      exact ih (d + 1) f (by omega) (by omega) (Or.inr z) μ F e
end UM
theorem q_since {m : pMem} (I : Inv m) (a x : Int32) : ∃ r m1 m2, sX8_since a x m = some (r, m1) ∧ sX9_since a x m1 = some (r, m2) ∧ Inv m2 := by
  have I0 := I
  obtain ⟨c, g, l, p, w, v, d, t, n, b, h, hT, hP, hG⟩ := I
  have hp := hP.ple
  have hl := h.lle
  have hQ := hP.toQ
  unfold sX8_since sX9_since sX8_since_b22 sX9_since_b16
  by_cases ha : inN a p
  · obtain ⟨i, hi, rfl⟩ := (inN_iff (show p < 2 ^ 31 by omega)).mp ha
    by_cases hx : inN x l
    · obtain ⟨q, hq, rfl⟩ := (inN_iff (show l < 2 ^ 31 by omega)).mp hx
      obtain ⟨s, hs, es⟩ := hQ.dr i hi
      obtain ⟨μ, e1, f1, s1⟩ := l_sin8 h hT hQ hi hq 1000 0 5000 (by omega) (by omega) (Or.inl rfl) m (fr.rf m) rfl
      have l1 : μ.1 9 38 = 0 := by rw [s1]; exact hP.lft
      obtain ⟨ν, e2, f2, s2⟩ := l_sin9 h hQ hi hq (1000 - s) s 5000 (by omega) (by omega) μ f1 l1
      have es2 : sF m c l w v i q 1000 0 = sF m c l w v i q (1000 - s) s := by
        have := sF_skip (m := m) (c := c) (l := l) (w := w) (v := v) (i := i) (q := q) s 0 (1000 - s) (fun x hx => by
          rw [Nat.zero_add, bS_ahead es hs hx, b_0]
          decide)
        rw [show s + (1000 - s) = 1000 by omega, Nat.zero_add] at this
        exact this
      refine ⟨sF m c l w v i q 1000 0, μ, ν, ?_, ?_, inv_fr I0 f2 s2⟩
      · rw [p_pact3 (nI i) m hP.p4, cbR_some, bI_t ha, if_neg n10, p_land2 (nI q) m h.l3, cbR_some, bI_t hx, if_pos n10]
        exact e1
      · rw [p_pact9 (show p < 2 ^ 31 by omega) (nI i) μ (f1.Q hQ).p9, cbR_some, bI_t ha, if_neg n10, p_land9 (show l < 2 ^ 31 by omega) (nI q) μ (f1.H h).l9, cbR_some, bI_t hx, if_pos n10, if_neg (noob (by omega) (by omega)), bnd_eq, nI_clamp (by omega), f1.toB.c83, es, es2]
        exact e2
    · refine ⟨-2, m, m, ?_, ?_, I0⟩
      · rw [p_pact3 (nI i) m hP.p4, cbR_some, bI_t ha, if_neg n10, p_land2 x m h.l3, cbR_some, bI_f hx, if_neg nn0]
      · rw [p_pact9 (show p < 2 ^ 31 by omega) (nI i) m hP.p9, cbR_some, bI_t ha, if_neg n10, p_land9 (show l < 2 ^ 31 by omega) x m h.l9, cbR_some, bI_f hx, if_neg nn0]
  · refine ⟨-2, m, m, ?_, ?_, I0⟩
    · rw [p_pact3 a m hP.p4, cbR_some, bI_f ha, if_pos rfl]
    · rw [p_pact9 (show p < 2 ^ 31 by omega) a m hP.p9, cbR_some, bI_f ha, if_pos rfl]
