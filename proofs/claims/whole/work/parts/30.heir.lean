/-! heirs -/
theorem gof_congr {ow ow' : Nat → Int32} {l : Int32} {c : Nat} : ∀ {n : Nat}, (∀ i, i < n → ow (8 * c + i) = ow' (8 * c + i)) → gof ow l c n = gof ow' l c n
  | 0, _ => rfl
  | n + 1, h => by rw [gof_s, gof_s, gof_congr (fun i hi => h i (by omega)), h n (by omega)]
section HE
variable {m : pMem} {c g l : Nat}
theorem IH.end_th (h : IH m c g l) {j q : Nat} (hj : j < c) (hq : q < 32) (he : ends m j q) : bt (m.1 75 j) q = true ∧ q < lnF (m.1 68) j := by
  have hlb := h.lb (j := j) (by omega)
  rcases he with ⟨-, e⟩ | ⟨k, e⟩
  · obtain ⟨a, ha, ea, hb⟩ := h.ar j hj
    have : a = q := nI_inj (by omega) (by omega) (ea.symm.trans e)
    subst this
    exact ⟨hb, ha⟩
  · obtain ⟨a, ha, ea, hb, -⟩ := h.br j hj (Or.inl k)
    have : a = q := nI_inj (by omega) (by omega) (ea.symm.trans e)
    subst this
    exact ⟨hb, ha⟩
theorem IH.off (h : IH m c g l) {j q : Nat} (hq : q < 32) (hl : q < lnF (m.1 68) j) (hf : bt (m.1 75 j) q = false) : ∀ k, j ≤ k → k ≤ c → bt (m.1 75 k) q = false := by
  intro k
  induction k with
  | zero => intro h1 _; rw [show j = 0 by omega] at hf; exact hf
  | succ k ih =>
    intro h1 h2
    rcases Nat.lt_or_ge k j with z | z
    · rw [show j = k + 1 by omega] at hf; exact hf
    · have hk := ih z (by omega)
      cases hb : bt (m.1 75 (k + 1)) q with
      | false => rfl
      | true =>
        rcases (h.tb (by omega) hq).mp hb with w | ⟨w, -⟩
        · have := (cms_lt w).1
          have := lnF_mono (m.1 68) z
          omega
        · rw [hk] at w; cases w
theorem IH.gone (h : IH m c g l) {j q : Nat} (hj : j < c) (hq : q < 32) (he : ends m j q) : ∀ k, j < k → k ≤ c → bt (m.1 75 k) q = false := by
  obtain ⟨-, hl⟩ := h.end_th hj hq he
  have h1 : bt (m.1 75 (j + 1)) q = false := by
    cases hb : bt (m.1 75 (j + 1)) q with
    | false => rfl
    | true =>
      rcases (h.tb hj hq).mp hb with w | ⟨-, w⟩
      · have := (cms_lt w).1; omega
      · exact absurd he w
  exact fun k hk hkc => h.off hq (Nat.lt_of_lt_of_le hl (lnF_mono _ (by omega))) h1 k hk hkc
theorem IH.end_1 (h : IH m c g l) {i j q : Nat} (hi : i < c) (hj : j < c) (hq : q < 32) (he : ends m i q) (hf : ends m j q) : i = j := by
  rcases Nat.lt_trichotomy i j with z | z | z
  · have := h.gone hi hq he j z (by omega)
    rw [(h.end_th hj hq hf).1] at this; cases this
  · exact z
  · have := h.gone hj hq hf i z (by omega)
    rw [(h.end_th hi hq he).1] at this; cases this
/-- the grounds with which lands come -/
theorem IH.sbit (h : IH m c g l) {j : Nat} (hj : j < c) (hk : m.1 68 j = 0 ∨ m.1 68 j = 1 ∨ m.1 68 j = 3) {i : Nat} (hi : i < 32) (hb : bt (m.1 72 j) i = true) : i < g ∧ m.1 74 (8 * j + i) = m.1 70 j := by
  obtain ⟨-, h2, -⟩ := h.sr j hj hk
  have hg := h.gle
  have h3 : bt (m.1 72 j &&& (gof (m.1 74) (m.1 70 j) j g ^^^ (-1 : Int32))) i = false := by rw [h2, b_0]
  rw [b_and, b_xor, b_m1 i hi, hb, gof_bt _ _ _ g (by omega) i hi] at h3
  simpa using h3
theorem IH.gNew (h : IH m c g l) {j : Nat} (hj : j < c) (hk : m.1 68 j = 0 ∨ m.1 68 j = 1) : gof (m.1 74) (nI (lnF (m.1 68) j)) (j + 1) g = m.1 72 j := by
  have hg := h.gle
  have hlb := h.lb (j := j) (by omega)
  apply b_ext
  intro i hi
  rw [gof_bt _ _ _ g (by omega) i hi]
  cases hb : bt (m.1 72 j) i with
  | true =>
    obtain ⟨h1, h2⟩ := h.sbit hj (by rcases hk with k | k <;> simp [k]) hi hb
    rw [decide_eq_true_eq]
    refine ⟨h1, ?_⟩
    rw [h.os j hj i (by omega), h2]
    unfold owS
    rw [if_pos hk, if_pos rfl, if_pos hb, h.fr j hj]
  | false =>
    rw [decide_eq_false_iff_not]
    rintro ⟨h1, h2⟩
    obtain ⟨q, hq, eq, -⟩ := h.ow (j := j) (by omega) (i := i) (by omega)
    obtain ⟨a, ha, ea, -⟩ := h.ar j hj
    rw [h.os j hj i (by omega)] at h2
    unfold owS at h2
    rw [if_pos hk] at h2
    by_cases e : m.1 74 (8 * j + i) = m.1 70 j
    · rw [if_pos e, hb, if_neg (show ¬ (false = true) by decide)] at h2
      by_cases k0 : m.1 68 j = 0
      · rw [if_pos k0, ea] at h2
        have := nI_inj (by omega) (by omega) h2; omega
      · rw [if_neg k0, h.fr j hj, nI_1] at h2
        have := nI_inj (by omega) (by omega) h2; omega
    · rw [if_neg e, eq] at h2
      have := nI_inj (by omega) (by omega) h2; omega
theorem IH.gOld (h : IH m c g l) {j : Nat} (hj : j < c) (hk : m.1 68 j = 1) : gof (m.1 74) (nI (lnF (m.1 68) j + 1)) (j + 1) g = (gof (m.1 74) (m.1 70 j) j g &&& (m.1 72 j ^^^ (-1 : Int32))) := by
  have hg := h.gle
  have hlb := h.lb (j := j) (by omega)
  apply b_ext
  intro i hi
  rw [gof_bt _ _ _ g (by omega) i hi, b_and, b_xor, b_m1 i hi, gof_bt _ _ _ g (by omega) i hi]
  rcases Nat.lt_or_ge i g with z | z
  · rw [h.os j hj i (by omega)]
    unfold owS
    rw [if_pos (Or.inr hk), h.fr j hj]
    obtain ⟨q, hq, eq, -⟩ := h.ow (j := j) (by omega) (i := i) (by omega)
    by_cases e : m.1 74 (8 * j + i) = m.1 70 j
    · rw [if_pos e]
      cases hb : bt (m.1 72 j) i with
      | true =>
        rw [if_pos rfl]
        have : ¬ nI (lnF (m.1 68) j) = nI (lnF (m.1 68) j + 1) := fun q => by have := nI_inj (by omega) (by omega) q; omega
        simp [this]
      | false =>
        rw [if_neg (by decide), if_neg (by rw [hk]; decide), nI_1]
        simp [z, e]
    · rw [if_neg e, eq]
      have : ¬ nI q = nI (lnF (m.1 68) j + 1) := fun q => by have := nI_inj (by omega) (by omega) q; omega
      rw [eq] at e
      simp [this, e]
  · have : ¬ i < g := by omega
    simp [this]
/-- who stands for a land that is no more behind change j -/
def nxt (m : pMem) (g j : Nat) : Int32 :=
  if m.1 68 j = 1 then (if sumB (m.1 64) (m.1 72 j) g < sumB (m.1 64) (gof (m.1 74) (m.1 70 j) j g &&& (m.1 72 j ^^^ (-1 : Int32))) g then m.1 73 j + 1 else m.1 73 j) else m.1 70 j
def endB (m : pMem) (j : Nat) (h : Int32) : Prop := (m.1 68 j = 1 ∧ m.1 70 j = h) ∨ (m.1 68 j = 2 ∧ m.1 71 j = h)
theorem IH.nx_th (h : IH m c g l) {j q : Nat} (hj : j < c) (he : ends m j q) : ∃ r, r < lnF (m.1 68) (j + 1) ∧ nxt m g j = nI r ∧ bt (m.1 75 (j + 1)) r = true := by
  have hlb := h.lb (j := j + 1) (by omega)
  unfold nxt
  have put : ∀ r, cms m j r → r < lnF (m.1 68) (j + 1) ∧ bt (m.1 75 (j + 1)) r = true := fun r w => ⟨(cms_lt w).2, (h.tb hj (by have := (cms_lt w).2; omega)).mpr (Or.inl w)⟩
  rcases he with ⟨k, e⟩ | ⟨k, e⟩
  · rw [if_pos k, h.fr j hj]
    by_cases z : sumB (m.1 64) (m.1 72 j) g < sumB (m.1 64) (gof (m.1 74) (m.1 70 j) j g &&& (m.1 72 j ^^^ (-1 : Int32))) g
    · rw [if_pos z, nI_1]
      obtain ⟨p1, p2⟩ := put (lnF (m.1 68) j + 1) (Or.inr ⟨k, Or.inr rfl⟩)
      exact ⟨_, p1, rfl, p2⟩
    · rw [if_neg z]
      obtain ⟨p1, p2⟩ := put (lnF (m.1 68) j) (Or.inr ⟨k, Or.inl rfl⟩)
      exact ⟨_, p1, rfl, p2⟩
  · rw [if_neg (by rw [k]; decide)]
    obtain ⟨a, ha, ea, hb⟩ := h.ar j hj
    obtain ⟨b, hb1, eb, -, hne⟩ := h.br j hj (Or.inl k)
    have hm := lnF_mono (m.1 68) (show j ≤ j + 1 by omega)
    refine ⟨a, Nat.lt_of_lt_of_le ha hm, ea, (h.tb hj (by omega)).mpr (Or.inr ⟨hb, ?_⟩)⟩
    rintro (⟨w, -⟩ | ⟨-, w⟩)
    · rw [k] at w; exact absurd w (by decide)
    · exact hne (w.trans ea.symm)
theorem p_comesBy (h : IH m c g l) {j q : Nat} (hj : j < c) (hq : q < l) [Decidable (cms m j q)] : sX9_comesBy (nI q) (nI j) m = some (bI (cms m j q)) := by
  have hc := h.cle
  have hl := h.lle
  have hlb := h.lb (j := j) (by omega)
  have hob := noob (i := j) (n := 12) (by omega) (by omega)
  have hcl := nI_clamp (show j < 2 ^ 31 by omega)
  have e1 : nI (lnF (m.1 68) j) = nI q ↔ q = lnF (m.1 68) j := ⟨fun z => (nI_inj (by omega) (by omega) z).symm, fun z => by rw [z]⟩
  have e2 : nI (lnF (m.1 68) j) + 1 = nI q ↔ q = lnF (m.1 68) j + 1 := by rw [nI_1]; exact ⟨fun z => (nI_inj (by omega) (by omega) z).symm, fun z => by rw [z]⟩
  unfold sX9_comesBy sX9_comesBy_b19 sX9_comesBy_b51 sX9_comesBy_b55 sX9_comesBy_b56
  simp only [if_neg hob, hcl, h.fr j hj, e1, e2]
  by_cases k0 : m.1 68 j = 0
  · have k1 : ¬ m.1 68 j = 1 := by rw [k0]; decide
    by_cases z : q = lnF (m.1 68) j
    · rw [if_neg (not_not_intro k0), if_pos z, nar1, bI_t (show cms m j q from Or.inl ⟨k0, z⟩)]
    · rw [if_neg (not_not_intro k0), if_neg z, if_pos k1, nar0, bI_f (fun w : cms m j q => by
        rcases w with ⟨-, w⟩ | ⟨w, -⟩
        · exact z w
        · exact k1 w)]
  · rw [if_pos k0]
    by_cases k1 : m.1 68 j = 1
    · rw [if_neg (not_not_intro k1)]
      by_cases z : q = lnF (m.1 68) j
      · rw [if_pos z, nar1, bI_t (show cms m j q from Or.inr ⟨k1, Or.inl z⟩)]
      · rw [if_neg z]
        by_cases z1 : q = lnF (m.1 68) j + 1
        · rw [if_neg (not_not_intro z1), nar1, bI_t (show cms m j q from Or.inr ⟨k1, Or.inr z1⟩)]
        · rw [if_pos z1, nar0, bI_f (fun w : cms m j q => by
            rcases w with ⟨w, -⟩ | ⟨-, w⟩
            · exact k0 w
            · omega)]
    · rw [if_pos k1, nar0, bI_f (fun w : cms m j q => by
        rcases w with ⟨w, -⟩ | ⟨w, -⟩
        · exact k0 w
        · exact k1 w)]
/-- every land came once -/
theorem came_by (m : pMem) : ∀ {n q : Nat}, q < lnF (m.1 68) n → q = 0 ∨ ∃ j, j < n ∧ cms m j q
  | 0, q, h => Or.inl (by unfold lnF at h; omega)
  | n + 1, q, h => by
    rcases Nat.lt_or_ge q (lnF (m.1 68) n) with z | z
    · rcases came_by m z with e | ⟨j, hj, w⟩
      · exact Or.inl e
      · exact Or.inr ⟨j, by omega, w⟩
    · refine Or.inr ⟨n, by omega, ?_⟩
      rw [lnF_s] at h
      by_cases k0 : m.1 68 n = 0
      · rw [if_pos k0] at h; exact Or.inl ⟨k0, by omega⟩
      · rw [if_neg k0] at h
        by_cases k1 : m.1 68 n = 1
        · rw [if_pos k1] at h; exact Or.inr ⟨k1, by omega⟩
        · rw [if_neg k1] at h; omega
theorem cms_1 {i j q : Nat} (hi : cms m i q) (hj : cms m j q) : i = j := by
  have a1 := cms_lt hi
  have a2 := cms_lt hj
  rcases Nat.lt_trichotomy i j with z | z | z
  · have := lnF_mono (m.1 68) (show i + 1 ≤ j by omega); omega
  · exact z
  · have := lnF_mono (m.1 68) (show j + 1 ≤ i by omega); omega
theorem IH.camed (h : IH m c g l) {j q : Nat} (hj : j < c) (w : cms m j q) : m.1 67 q = m.1 69 j ∧ m.1 66 q = m.1 70 j := by
  rcases w with ⟨k, rfl⟩ | ⟨k, rfl | rfl⟩
  · exact ⟨(h.pf j hj (Or.inl k)).2, (h.pf j hj (Or.inl k)).1⟩
  · exact ⟨(h.pf j hj (Or.inr k)).2, (h.pf j hj (Or.inr k)).1⟩
  · exact ⟨(h.pf2 j hj k).2, (h.pf2 j hj k).1⟩
/-- has a land come by a day -/
theorem IH.come (h : IH m c g l) {q d : Nat} (hq : q < l) (hd : d ≤ 999) : m.1 67 q ≤ nI d ↔ q < lnF (m.1 68) (IHc m c (nI d)) := by
  have hcc := h.cle' (nI d)
  constructor
  · intro hle
    rcases came_by m (n := c) (q := q) (by rw [← h.ll]; exact hq) with rfl | ⟨j, hj, w⟩
    · exact lnF_pos _ _
    · have e := (h.camed hj w).1
      rw [e] at hle
      have : j < IHc m c (nI d) := (cntD_iff h.ds j hj).mpr (Int32.not_lt.mpr hle)
      exact Nat.lt_of_lt_of_le (cms_lt w).2 (lnF_mono _ this)
  · intro hlt
    rcases came_by m hlt with rfl | ⟨j, hj, w⟩
    · rw [h.cm0]; exact nI_le (Nat.zero_le _) (by omega)
    · rw [(h.camed (by omega) w).1]
      exact Int32.not_lt.mp ((cntD_iff h.ds j (by omega)).mp hj)
end HE
