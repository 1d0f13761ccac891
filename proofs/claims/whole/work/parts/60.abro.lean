/-! things abroad -/
section AB
variable {m : pMem} {c g l : Nat}
/-- who has a thing abroad behind change j -/
def abS (m : pMem) (g j : Nat) (s : Int32) (o : Nat) : Nat :=
  if m.1 68 j = 0 then (if nv (m.1 70 j) = o then (if kx m g j s ≤ kz m g j s then o else lnF (m.1 68) j) else o)
  else if m.1 68 j = 1 then (if nv (m.1 70 j) = o then (if kx m g j s < kz m g j s then lnF (m.1 68) j + 1 else lnF (m.1 68) j) else o)
  else if m.1 68 j = 2 then (if nv (m.1 71 j) = o then nv (m.1 70 j) else o)
  else o
def abI (m : pMem) (g : Nat) (s : Int32) : Nat → Nat → Nat → Nat
  | 0, _, o => o
  | n + 1, i, o => abI m g s n (i + 1) (abS m g i s o)
theorem abI_s (m : pMem) (g : Nat) (s : Int32) (n i o : Nat) : abI m g s (n + 1) i o = abI m g s n (i + 1) (abS m g i s o) := rfl
theorem sub_int {a b : Nat} (ha : a ≤ 8000) (hb : b ≤ 8000) : (nI a - nI b).toInt = (a : Int) - b := by
  rw [Int32.toInt_sub, nI_toInt (by omega), nI_toInt (by omega)]
  exact Int.bmod_eq_of_le (by omega) (by omega)
theorem sub_lt0 {a b : Nat} (ha : a ≤ 8000) (hb : b ≤ 8000) : nI a - nI b < 0 ↔ nI a < nI b := by
  rw [lt_iff (by omega) (by omega), Int32.lt_iff_toInt_lt, sub_int ha hb]
  show _ < (0 : Int) ↔ _
  omega
theorem sub_le0 {a b : Nat} (ha : a ≤ 8000) (hb : b ≤ 8000) : nI a - nI b ≤ 0 ↔ nI a ≤ nI b := by
  rw [le_iff (by omega) (by omega), Int32.le_iff_toInt_le, sub_int ha hb]
  show _ ≤ (0 : Int) ↔ _
  omega
theorem abS_lt (h : IH m c g l) {j o : Nat} (hj : j < c) (s : Int32) (ho : o < lnF (m.1 68) j) : abS m g j s o < lnF (m.1 68) (j + 1) := by
  have hm := lnF_mono (m.1 68) (show j ≤ j + 1 by omega)
  obtain ⟨a, ea, ha, na, hln⟩ := h.nums hj
  unfold abS
  rw [na]
  rcases h.kc hj with k | k | k | k | k
  · have := (cms_lt (m := m) (j := j) (q := lnF (m.1 68) j) (Or.inl ⟨k, rfl⟩)).2
    rw [if_pos k]
    split
    · split <;> omega
    · omega
  · have := (cms_lt (m := m) (j := j) (q := lnF (m.1 68) j + 1) (Or.inr ⟨k, Or.inr rfl⟩)).2
    rw [if_neg (show ¬ m.1 68 j = 0 by rw [k]; decide), if_pos k]
    split
    · split <;> omega
    · omega
  · rw [if_neg (show ¬ m.1 68 j = 0 by rw [k]; decide), if_neg (show ¬ m.1 68 j = 1 by rw [k]; decide), if_pos k]
    split <;> omega
  · rw [if_neg (show ¬ m.1 68 j = 0 by rw [k]; decide), if_neg (show ¬ m.1 68 j = 1 by rw [k]; decide), if_neg (show ¬ m.1 68 j = 2 by rw [k]; decide)]
    omega
  · rw [if_neg (show ¬ m.1 68 j = 0 by rw [k]; decide), if_neg (show ¬ m.1 68 j = 1 by rw [k]; decide), if_neg (show ¬ m.1 68 j = 2 by rw [k]; decide)]
    omega
theorem nI_same {a o : Nat} (ha : a < 100) (ho : o < 100) : nI a = nI o ↔ a = o := nI_eq (by omega) (by omega)
theorem p_beh (h : IH m c g l) {j : Nat} (hj : j < c) (s : Int32) : sX1_ownerAbroadBehind (nI j) s m = some (nI (if m.1 68 j = 0 then (if kx m g j s ≤ kz m g j s then nv (m.1 70 j) else lnF (m.1 68) j) else if m.1 68 j = 1 then (if kx m g j s < kz m g j s then lnF (m.1 68) j + 1 else lnF (m.1 68) j) else nv (m.1 70 j))) := by
  have hc := h.cle
  obtain ⟨a, ea, ha, na, hln⟩ := h.nums hj
  unfold sX1_ownerAbroadBehind sX1_ownerAbroadBehind_b45 sX1_ownerAbroadBehind_b109 sX1_ownerAbroadBehind_b94
  rw [h.knd, h.fst, h.frs]
  simp only [if_neg (noob (i := j) (n := 12) (by omega) (by omega)), nI_clamp (show j < 2 ^ 31 by omega), bnd_eq, na]
  rw [h.fr j hj, ea]
  by_cases k0 : m.1 68 j = 0
  · obtain ⟨x, y, hx, hy, hxy, e1, e2⟩ := h.kxz hj (Or.inl k0) s
    rw [if_pos k0, if_pos k0, p_kf1 h hj (Or.inl k0), cbR_some, p_ko1 h hj (Or.inl k0), cbR_some, if_neg (not_not_intro k0), e1, e2]
    by_cases z : nI x ≤ nI y
    · rw [if_pos z, if_pos ((sub_le0 hx hy).mpr z)]
    · rw [if_neg z, if_neg (fun w => z ((sub_le0 hx hy).mp w))]
  · rw [if_neg k0, if_neg k0]
    by_cases k1 : m.1 68 j = 1
    · obtain ⟨x, y, hx, hy, hxy, e1, e2⟩ := h.kxz hj (Or.inr k1) s
      rw [if_pos k1, if_pos k1, p_kf1 h hj (Or.inr k1), cbR_some, p_ko1 h hj (Or.inr k1), cbR_some, if_pos k0, e1, e2, nI_1]
      by_cases z : nI x < nI y
      · rw [if_pos z, if_pos ((sub_lt0 hx hy).mpr z)]
      · rw [if_neg z, if_neg (fun w => z ((sub_lt0 hx hy).mp w))]
    · rw [if_neg k1, if_neg k1]
theorem ab5_s (f : Nat) : sX1_ownerAbroad_l5 (f + 1) = sX1_ownerAbroad_b5 (sX1_ownerAbroad_l5 f) := rfl
theorem l_ab5 (h : IH m c g l) (s : Int32) {C : Nat} (hC : C ≤ c) : ∀ (j i f : Nat), i + j = C → j < f → ∀ o, o < lnF (m.1 68) i → sX1_ownerAbroad_l5 f (nI C) s (nI o) (nI i) m = some (nI (abI m g s j i o)) := by
  have hc := h.cle
  intro j
  induction j with
  | zero =>
    intro i f hij hf o ho
    obtain ⟨f, rfl⟩ := fuel_s (Nat.lt_of_le_of_lt (Nat.zero_le _) hf)
    have : i = C := by omega
    subst this
    rw [ab5_s]
    unfold sX1_ownerAbroad_b5
    rw [if_pos (nI_le (Nat.le_refl _) (by omega))]
    rfl
  | succ j ih =>
    intro i f hij hf o ho
    obtain ⟨f, rfl⟩ := fuel_s (Nat.lt_of_le_of_lt (Nat.zero_le _) hf)
    have hi : i < c := by omega
    obtain ⟨a, ea, ha, na, hln⟩ := h.nums hi
    have e := ih (i + 1) f (by omega) (by omega) (abS m g i s o) (abS_lt h hi s ho)
    have hb := p_beh h hi s
    rw [ab5_s, abI_s]
    unfold sX1_ownerAbroad_b5 sX1_ownerAbroad_b53 sX1_ownerAbroad_b75
    rw [if_neg (nI_ge (by omega) (by omega)), h.knd, h.fst, h.snd]
    simp only [if_neg (noob (i := i) (n := 12) (by omega) (by omega)), nI_clamp (show i < 2 ^ 31 by omega), bnd_eq, nI_1]
    rw [hb, cbR_some, na, ea]
    unfold abS at e ⊢
    rw [na] at e ⊢
    by_cases k2 : m.1 68 i = 2
    · have k0 : ¬ m.1 68 i = 0 := by rw [k2]; decide
      have k1 : ¬ m.1 68 i = 1 := by rw [k2]; decide
      obtain ⟨b, hbl, eb, -, hne⟩ := h.br i hi (Or.inl k2)
      simp only [if_neg k0, if_neg k1, if_pos k2, eb, nv_nI (show b < 2 ^ 31 by omega)] at e ⊢
      rw [if_neg (not_not_intro k2)]
      by_cases z : b = o
      · rw [if_pos z] at e ⊢
        rw [if_neg (not_not_intro (show nI b = nI o by rw [z]))]
        exact e
      · rw [if_neg z] at e ⊢
        rw [if_pos (fun y => z ((nI_same (by omega) (by omega)).mp y))]
        by_cases y : a = o
        · rw [if_neg (not_not_intro (show nI a = nI o by rw [y])), y]
          exact e
        · rw [if_pos (fun x => y ((nI_same (by omega) (by omega)).mp x))]
          exact e
    · rw [if_pos k2]
      by_cases y : a = o
      · rw [if_neg (not_not_intro (show nI a = nI o by rw [y]))]
        by_cases k0 : m.1 68 i = 0
        · simp only [if_pos k0, if_pos y] at e ⊢
          rw [y]
          exact e
        · by_cases k1 : m.1 68 i = 1
          · simp only [if_neg k0, if_pos k1, if_pos y] at e ⊢
            exact e
          · simp only [if_neg k0, if_neg k1, if_neg k2] at e ⊢
            rw [y]
            exact e
      · rw [if_pos (fun x => y ((nI_same (by omega) (by omega)).mp x))]
        by_cases k0 : m.1 68 i = 0
        · simp only [if_pos k0, if_neg y] at e ⊢
          exact e
        · by_cases k1 : m.1 68 i = 1
          · simp only [if_neg k0, if_pos k1, if_neg y] at e ⊢
            exact e
          · simp only [if_neg k0, if_neg k1, if_neg k2] at e ⊢
            exact e
/-- only the owner has one -/
theorem p_ab9 (h : IH m c g l) {j o : Nat} (hj : j < c) {s : Int32} (hs : s = 0 ∨ s = 1 ∨ s = 2) (ho : o < lnF (m.1 68) j) {A : Nat → Int32} (hA : al10 A (one10 o 1)) : ∃ B : Nat → Int32, sX9_abroadAt (nI j) s (up1 m 105 A) = some (0, up1 m 105 B) ∧ al10 B (one10 (abS m g j s o) 1) := by
  have hc := h.cle
  obtain ⟨a, ea, ha, na, hln⟩ := h.nums hj
  have h1 := h.up105 A
  have hgr : sX9_groundsOf (nI a) (nI j) (up1 m 105 A) = some (allG m g j) := by
    rw [h1.groundsOf (by omega)]
    unfold allG
    rw [ea]
    rfl
  have K1 := p_key9 h1 (j := j) hs (m.1 72 j)
  have K2 := p_key9 h1 (j := j) hs (allG m g j &&& (m.1 72 j ^^^ (-1 : Int32)))
  rw [show allG (up1 m 105 A) g j = allG m g j from rfl, ky_up9] at K1 K2
  have K1' : sX9_keyOf (m.1 72 j) (allG m g j) s (up1 m 105 A) = some (kx m g j s) := K1
  have K2' : sX9_keyOf (allG m g j &&& (m.1 72 j ^^^ (-1 : Int32))) (allG m g j) s (up1 m 105 A) = some (kz m g j s) := K2
  have hAa : A a = if a = o then 1 else 0 := hA a (by omega)
  have put : ∀ x, x < 10 → a = o → al10 (upd (upd A a 0) x 1) (one10 x 1) := fun x hx ao q hq => by
    have := hA q hq
    unfold one10 at this ⊢
    rw [upd_at, upd_at]
    by_cases z : q = x
    · rw [if_pos z, if_pos z]
    · rw [if_neg z, if_neg z]
      by_cases y : q = a
      · rw [if_pos y]
      · rw [if_neg y, this, if_neg (by omega)]
  unfold sX9_abroadAt sX9_abroadAt_b186 sX9_abroadAt_b79 sX9_abroadAt_b184 sX9_abroadAt_b186 abS
  have u68 : ∀ B : Nat → Int32, (up1 m 105 B).1 68 = m.1 68 := fun _ => rfl
  have u70 : ∀ B : Nat → Int32, (up1 m 105 B).1 70 = m.1 70 := fun _ => rfl
  have u71 : ∀ B : Nat → Int32, (up1 m 105 B).1 71 = m.1 71 := fun _ => rfl
  have u72 : ∀ B : Nat → Int32, (up1 m 105 B).1 72 = m.1 72 := fun _ => rfl
  have u73 : ∀ B : Nat → Int32, (up1 m 105 B).1 73 = m.1 73 := fun _ => rfl
  simp only [u68, u70, u71, u72, u73, st_up]
  simp only [if_neg (noob (i := j) (n := 12) (by omega) (by omega)), nI_clamp (show j < 2 ^ 31 by omega), bnd_eq, na, u68, u70, u71, u72, u73, st_up]
  rw [h.fr j hj, ea]
  simp only [if_neg (noob (i := a) (n := 10) (by omega) (by omega)), nI_clamp (show a < 2 ^ 31 by omega), hgr, cbR_some, K1', K2', up_at, hAa]
  rcases h.kc hj with k | k | k | k | k
  · have hn := h.n0 hj k
    rw [if_pos (show ¬ m.1 68 j = 2 by rw [k]; decide), if_pos k, if_pos k]
    by_cases y : a = o
    · rw [if_pos y, if_pos y, if_neg (not_not_intro rfl), if_neg (not_not_intro k)]
      by_cases z : kx m g j s ≤ kz m g j s
      · rw [if_pos z, if_pos z]
        exact ⟨_, rfl, by rw [← y]; exact put a (by omega) y⟩
      · rw [if_neg z, if_neg z, if_neg (noob (by omega) (by omega)), nI_clamp (by omega)]
        exact ⟨_, rfl, put _ (by omega) y⟩
    · rw [if_neg y, if_neg y, if_pos (show ¬ (0 : Int32) = 1 by decide)]
      exact ⟨A, rfl, hA⟩
  · have hn := h.n1 hj k
    have k0 : ¬ m.1 68 j = 0 := by rw [k]; decide
    rw [if_pos (show ¬ m.1 68 j = 2 by rw [k]; decide), if_neg k0, if_neg (not_not_intro k), if_neg k0, if_pos k, nI_1]
    by_cases y : a = o
    · rw [if_pos y, if_pos y, if_neg (not_not_intro rfl), if_pos k0]
      by_cases z : kx m g j s < kz m g j s
      · rw [if_pos z, if_pos z, if_neg (noob (by omega) (by omega)), nI_clamp (by omega)]
        exact ⟨_, rfl, put _ (by omega) y⟩
      · rw [if_neg z, if_neg z, if_neg (noob (by omega) (by omega)), nI_clamp (by omega)]
        exact ⟨_, rfl, put _ (by omega) y⟩
    · rw [if_neg y, if_neg y, if_pos (show ¬ (0 : Int32) = 1 by decide)]
      exact ⟨A, rfl, hA⟩
  · obtain ⟨b, hb, eb, -, hne⟩ := h.br j hj (Or.inl k)
    have hAb : A b = if b = o then 1 else 0 := hA b (by omega)
    have hab : a ≠ b := fun y => hne (by rw [ea, eb, y])
    rw [if_neg (not_not_intro k), if_neg (show ¬ m.1 68 j = 0 by rw [k]; decide), if_neg (show ¬ m.1 68 j = 1 by rw [k]; decide), if_pos k, eb]
    simp only [if_neg (noob (i := b) (n := 10) (by omega) (by omega)), nI_clamp (show b < 2 ^ 31 by omega), st_up, up_at, u68, u71, nv_nI (show b < 2 ^ 31 by omega), hAb]
    refine ⟨_, rfl, fun q hq => ?_⟩
    have := hA q hq
    unfold one10 at this ⊢
    rw [upd_at, upd_at]
    by_cases z : b = o
    · rw [if_pos z, if_neg (show ¬ a = o by omega), if_pos z]
      by_cases y : q = b
      · rw [if_pos y, if_neg (by omega)]
      · rw [if_neg y]
        by_cases x : q = a
        · rw [if_pos x, if_pos x]
          decide
        · rw [if_neg x, if_neg x, this, if_neg (by omega)]
    · rw [if_neg z, if_neg z]
      by_cases y : q = b
      · rw [if_pos y, if_neg (by omega)]
      · rw [if_neg y]
        by_cases x : q = a
        · rw [if_pos x, Int32.add_zero, x]
        · rw [if_neg x, this]
  · rw [if_pos (show ¬ m.1 68 j = 2 by rw [k]; decide), if_neg (show ¬ m.1 68 j = 0 by rw [k]; decide), if_pos (show ¬ m.1 68 j = 1 by rw [k]; decide), if_neg (show ¬ m.1 68 j = 0 by rw [k]; decide), if_neg (show ¬ m.1 68 j = 1 by rw [k]; decide), if_neg (show ¬ m.1 68 j = 2 by rw [k]; decide)]
    exact ⟨A, rfl, hA⟩
  · rw [if_pos (show ¬ m.1 68 j = 2 by rw [k]; decide), if_neg (show ¬ m.1 68 j = 0 by rw [k]; decide), if_pos (show ¬ m.1 68 j = 1 by rw [k]; decide), if_neg (show ¬ m.1 68 j = 0 by rw [k]; decide), if_neg (show ¬ m.1 68 j = 1 by rw [k]; decide), if_neg (show ¬ m.1 68 j = 2 by rw [k]; decide)]
    exact ⟨A, rfl, hA⟩
end AB
