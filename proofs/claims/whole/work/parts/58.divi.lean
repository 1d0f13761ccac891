/-! how changes divide what lands have -/
/-- behind change j -/
def stp (m : pMem) (g j : Nat) (s : Int32) (A : Nat → Int32) : Nat → Int32 :=
  let a := nv (m.1 70 j)
  let b := nv (m.1 71 j)
  let n := lnF (m.1 68) j
  let r := (A a * kx m g j s) / (kx m g j s + kz m g j s)
  if m.1 68 j = 0 then upd (upd A n r) a (A a - r)
  else if m.1 68 j = 1 then upd (upd (upd A n r) (n + 1) (A a - r)) a 0
  else if m.1 68 j = 2 then upd (upd A a (A a + A b)) b 0
  else A
theorem up_at (m : pMem) (k : Nat) (A : Nat → Int32) : (up1 m k A).1 k = A := if_pos rfl
theorem up_id (m : pMem) (k : Nat) : up1 m k (m.1 k) = m := by
  refine Prod.ext (funext fun q => ?_) rfl
  rw [up1_1]
  by_cases hk : q = k
  · rw [if_pos hk, hk]
  · rw [if_neg hk]
theorem up_up (m : pMem) (k : Nat) (A B : Nat → Int32) : up1 (up1 m k A) k B = up1 m k B := by
  refine Prod.ext (funext fun q => ?_) rfl
  rw [up1_1, up1_1, up1_1]
  by_cases hk : q = k
  · rw [if_pos hk, if_pos hk]
  · rw [if_neg hk, if_neg hk, if_neg hk]
section DV
variable {m : pMem} {c g l : Nat}
theorem IH.up18 (h : IH m c g l) (A : Nat → Int32) : IH (up1 m 18 A) c g l := h.congr ⟨rfl, rfl, rfl, rfl, rfl, rfl, rfl, rfl, rfl, rfl, rfl, rfl, rfl, rfl, rfl, rfl, rfl, rfl, rfl, rfl, rfl, rfl, rfl, rfl, rfl, rfl, rfl, rfl, rfl, rfl, rfl, fun j hj => by simp only [up1_1, st1_1, mkM_1]; (repeat rw [if_neg (by omega)])⟩
theorem IH.up105 (h : IH m c g l) (A : Nat → Int32) : IH (up1 m 105 A) c g l := h.congr ⟨rfl, rfl, rfl, rfl, rfl, rfl, rfl, rfl, rfl, rfl, rfl, rfl, rfl, rfl, rfl, rfl, rfl, rfl, rfl, rfl, rfl, rfl, rfl, rfl, rfl, rfl, rfl, rfl, rfl, rfl, rfl, fun j hj => by simp only [up1_1, st1_1, mkM_1]; (repeat rw [if_neg (by omega)])⟩
/-- the numbers of a change -/
theorem IH.nums (h : IH m c g l) {j : Nat} (hj : j < c) : ∃ a, m.1 70 j = nI a ∧ a < lnF (m.1 68) j ∧ nv (m.1 70 j) = a ∧ lnF (m.1 68) j ≤ 10 := by
  have hlb := h.lb (j := j) (by omega)
  obtain ⟨a, ha, ea, -⟩ := h.ar j hj
  exact ⟨a, ea, ha, by rw [ea, nv_nI (by omega)], hlb⟩
theorem IH.n0 (h : IH m c g l) {j : Nat} (hj : j < c) (k : m.1 68 j = 0) : lnF (m.1 68) j < 10 := by
  have := (cms_lt (m := m) (j := j) (q := lnF (m.1 68) j) (Or.inl ⟨k, rfl⟩)).2
  have := h.lb (j := j + 1) (by omega)
  omega
theorem IH.n1 (h : IH m c g l) {j : Nat} (hj : j < c) (k : m.1 68 j = 1) : lnF (m.1 68) j + 1 < 10 := by
  have := (cms_lt (m := m) (j := j) (q := lnF (m.1 68) j + 1) (Or.inr ⟨k, Or.inr rfl⟩)).2
  have := h.lb (j := j + 1) (by omega)
  omega
theorem kx_up (A : Nat → Int32) (g j : Nat) (s : Int32) : kx (up1 m 18 A) g j s = kx m g j s ∧ kz (up1 m 18 A) g j s = kz m g j s := ⟨rfl, rfl⟩
theorem ky_up9 (A : Nat → Int32) (g j : Nat) (s S : Int32) : ky (up1 m 105 A) g j s S = ky m g j s S := rfl
theorem p_dv1 (h : IH m c g l) {j : Nat} (hj : j < c) (s : Int32) (A : Nat → Int32) : sX1_divideAt (nI j) s (up1 m 18 A) = some (0, up1 m 18 (stp m g j s A)) := by
  have hc := h.cle
  obtain ⟨a, ea, ha, na, hln⟩ := h.nums hj
  have h1 := h.up18 A
  unfold sX1_divideAt sX1_divideAt_b185 stp
  rw [show (up1 m 18 A).1 24 = m.1 24 from rfl, show (up1 m 18 A).1 26 = m.1 26 from rfl, show (up1 m 18 A).1 27 = m.1 27 from rfl, show (up1 m 18 A).1 28 = m.1 28 from rfl, h.knd, h.fst, h.snd, h.frs]
  simp only [if_neg (noob (i := j) (n := 12) (by omega) (by omega)), nI_clamp (show j < 2 ^ 31 by omega), bnd_eq, na]
  rw [h.fr j hj, ea]
  simp only [if_neg (noob (i := a) (n := 10) (by omega) (by omega)), nI_clamp (show a < 2 ^ 31 by omega)]
  rcases h.kc hj with k | k | k | k | k
  · have hn := h.n0 hj k
    rw [if_pos k, if_pos k, up_at, p_po1 h1 hj (Or.inl k), cbR_some, (kx_up A g j s).1, (kx_up A g j s).2]
    simp only [if_neg (noob (i := lnF (m.1 68) j) (n := 10) (by omega) (by omega)), nI_clamp (show lnF (m.1 68) j < 2 ^ 31 by omega), st_up, up_at, upd_eq]
    rw [upd_ne _ _ (show a ≠ lnF (m.1 68) j by omega)]
  · have hn := h.n1 hj k
    rw [if_neg (show ¬ m.1 68 j = 0 by rw [k]; decide), if_pos k, if_neg (show ¬ m.1 68 j = 0 by rw [k]; decide), if_pos k, up_at, p_po1 h1 hj (Or.inr k), cbR_some, (kx_up A g j s).1, (kx_up A g j s).2, nI_1]
    simp only [if_neg (noob (i := lnF (m.1 68) j) (n := 10) (by omega) (by omega)), if_neg (noob (i := lnF (m.1 68) j + 1) (n := 10) (by omega) (by omega)), nI_clamp (show lnF (m.1 68) j < 2 ^ 31 by omega), nI_clamp (show lnF (m.1 68) j + 1 < 2 ^ 31 by omega), st_up, up_at, upd_eq]
    rw [upd_ne _ _ (show a ≠ lnF (m.1 68) j by omega)]
  · obtain ⟨b, hb, eb, -, hne⟩ := h.br j hj (Or.inl k)
    rw [if_neg (show ¬ m.1 68 j = 0 by rw [k]; decide), if_neg (show ¬ m.1 68 j = 1 by rw [k]; decide), if_pos k, if_neg (show ¬ m.1 68 j = 0 by rw [k]; decide), if_neg (show ¬ m.1 68 j = 1 by rw [k]; decide), if_pos k, eb]
    simp only [if_neg (noob (i := b) (n := 10) (by omega) (by omega)), nI_clamp (show b < 2 ^ 31 by omega), st_up, up_at, nv_nI (show b < 2 ^ 31 by omega)]
  · rw [if_neg (show ¬ m.1 68 j = 0 by rw [k]; decide), if_neg (show ¬ m.1 68 j = 1 by rw [k]; decide), if_neg (show ¬ m.1 68 j = 2 by rw [k]; decide), if_neg (show ¬ m.1 68 j = 0 by rw [k]; decide), if_neg (show ¬ m.1 68 j = 1 by rw [k]; decide), if_neg (show ¬ m.1 68 j = 2 by rw [k]; decide)]
  · rw [if_neg (show ¬ m.1 68 j = 0 by rw [k]; decide), if_neg (show ¬ m.1 68 j = 1 by rw [k]; decide), if_neg (show ¬ m.1 68 j = 2 by rw [k]; decide), if_neg (show ¬ m.1 68 j = 0 by rw [k]; decide), if_neg (show ¬ m.1 68 j = 1 by rw [k]; decide), if_neg (show ¬ m.1 68 j = 2 by rw [k]; decide)]
theorem upd_upd (A : Nat → Int32) (n : Nat) (x y : Int32) : upd (upd A n x) n y = upd A n y := by
  funext q
  rw [upd_at, upd_at, upd_at]
  by_cases z : q = n
  · rw [if_pos z, if_pos z]
  · rw [if_neg z, if_neg z, if_neg z]
theorem p_dv9 (h : IH m c g l) {j : Nat} (hj : j < c) {s : Int32} (hs : s = 0 ∨ s = 1 ∨ s = 2) (A : Nat → Int32) : sX9_shareAt (nI j) s (up1 m 105 A) = some (0, up1 m 105 (stp m g j s A)) := by
  have hc := h.cle
  obtain ⟨a, ea, ha, na, hln⟩ := h.nums hj
  have h1 := h.up105 A
  have hgr : sX9_groundsOf (nI a) (nI j) (up1 m 105 A) = some (allG m g j) := by
    rw [h1.groundsOf (by omega)]
    unfold allG
    rw [ea]
    rfl
  have K1 := p_key9 h1 (j := j) hs (m.1 72 j)
  have K2 := p_key9 h1 (j := j) hs (allG m g j &&& (m.1 72 j ^^^ (-1 : Int32)))
  rw [show allG (up1 m 105 A) g j = allG m g j from rfl, ky_up9] at K1 K2
  have K1' : sX9_keyOf (m.1 72 j) (allG m g j) s (up1 m 105 A) = some (kx m g j s) := K1
  have K2' : sX9_keyOf (allG m g j &&& (m.1 72 j ^^^ (-1 : Int32))) (allG m g j) s (up1 m 105 A) = some (kz m g j s) := K2
  unfold sX9_shareAt sX9_shareAt_b204 sX9_shareAt_b79 sX9_shareAt_b169 sX9_shareAt_b203 sX9_shareAt_b204 stp
  have u68 : ∀ B : Nat → Int32, (up1 m 105 B).1 68 = m.1 68 := fun _ => rfl
  have u70 : ∀ B : Nat → Int32, (up1 m 105 B).1 70 = m.1 70 := fun _ => rfl
  have u71 : ∀ B : Nat → Int32, (up1 m 105 B).1 71 = m.1 71 := fun _ => rfl
  have u72 : ∀ B : Nat → Int32, (up1 m 105 B).1 72 = m.1 72 := fun _ => rfl
  have u73 : ∀ B : Nat → Int32, (up1 m 105 B).1 73 = m.1 73 := fun _ => rfl
  simp only [u68, u70, u71, u72, u73, st_up]
  simp only [if_neg (noob (i := j) (n := 12) (by omega) (by omega)), nI_clamp (show j < 2 ^ 31 by omega), bnd_eq, na, u68, u70, u71, u72, u73, st_up]
  rw [h.fr j hj, ea]
  simp only [if_neg (noob (i := a) (n := 10) (by omega) (by omega)), nI_clamp (show a < 2 ^ 31 by omega), hgr, cbR_some, K1', K2', up_at]
  rcases h.kc hj with k | k | k | k | k
  · have hn := h.n0 hj k
    obtain ⟨x, y, hx, hy, hxy, e1, e2⟩ := h.kxz hj (Or.inl k) s
    have nz : ¬ kx m g j s + kz m g j s = 0 := by
      rw [e1, e2, nI_add]
      exact fun z => by
        have := nI_inj (a := x + y) (b := 0) (by omega) (by omega) z
        omega
    rw [if_pos (show ¬ m.1 68 j = 2 by rw [k]; decide), if_pos k, if_pos k, if_neg nz]
    simp only [if_neg (noob (i := lnF (m.1 68) j) (n := 10) (by omega) (by omega)), nI_clamp (show lnF (m.1 68) j < 2 ^ 31 by omega), st_up, up_at, u68, u71, upd_eq, upd_upd, k, not_true_eq_false, if_false]
    rw [upd_ne _ _ (show a ≠ lnF (m.1 68) j by omega)]
  · have hn := h.n1 hj k
    obtain ⟨x, y, hx, hy, hxy, e1, e2⟩ := h.kxz hj (Or.inr k) s
    have nz : ¬ kx m g j s + kz m g j s = 0 := by
      rw [e1, e2, nI_add]
      exact fun z => by
        have := nI_inj (a := x + y) (b := 0) (by omega) (by omega) z
        omega
    have k0 : ¬ m.1 68 j = 0 := by rw [k]; decide
    rw [if_pos (show ¬ m.1 68 j = 2 by rw [k]; decide), if_neg k0, if_neg (not_not_intro k), if_neg k0, if_pos k, if_neg nz, nI_1]
    simp only [if_neg (noob (i := lnF (m.1 68) j) (n := 10) (by omega) (by omega)), if_neg (noob (i := lnF (m.1 68) j + 1) (n := 10) (by omega) (by omega)), nI_clamp (show lnF (m.1 68) j < 2 ^ 31 by omega), nI_clamp (show lnF (m.1 68) j + 1 < 2 ^ 31 by omega), st_up, up_at, u68, u71, upd_eq, if_pos k0]
    rw [upd_ne _ _ (show a ≠ lnF (m.1 68) j by omega)]
  · obtain ⟨b, hb, eb, -, hne⟩ := h.br j hj (Or.inl k)
    rw [if_neg (not_not_intro k), if_neg (show ¬ m.1 68 j = 0 by rw [k]; decide), if_neg (show ¬ m.1 68 j = 1 by rw [k]; decide), if_pos k, eb]
    simp only [if_neg (noob (i := b) (n := 10) (by omega) (by omega)), nI_clamp (show b < 2 ^ 31 by omega), st_up, up_at, u68, u71, nv_nI (show b < 2 ^ 31 by omega)]
  · rw [if_pos (show ¬ m.1 68 j = 2 by rw [k]; decide), if_neg (show ¬ m.1 68 j = 0 by rw [k]; decide), if_pos (show ¬ m.1 68 j = 1 by rw [k]; decide), if_neg (show ¬ m.1 68 j = 0 by rw [k]; decide), if_neg (show ¬ m.1 68 j = 1 by rw [k]; decide), if_neg (show ¬ m.1 68 j = 2 by rw [k]; decide)]
  · rw [if_pos (show ¬ m.1 68 j = 2 by rw [k]; decide), if_neg (show ¬ m.1 68 j = 0 by rw [k]; decide), if_pos (show ¬ m.1 68 j = 1 by rw [k]; decide), if_neg (show ¬ m.1 68 j = 0 by rw [k]; decide), if_neg (show ¬ m.1 68 j = 1 by rw [k]; decide), if_neg (show ¬ m.1 68 j = 2 by rw [k]; decide)]
/-- n changes from one on -/
def itS (m : pMem) (g : Nat) (s : Int32) : Nat → Nat → (Nat → Int32) → Nat → Int32
  | 0, _, A => A
  | n + 1, i, A => itS m g s n (i + 1) (stp m g i s A)
theorem itS_s (m : pMem) (g : Nat) (s : Int32) (n i : Nat) (A : Nat → Int32) : itS m g s (n + 1) i A = itS m g s n (i + 1) (stp m g i s A) := rfl
/-- alike below ten -/
def al10 (A B : Nat → Int32) : Prop := ∀ q, q < 10 → A q = B q
theorem al_upd {A B : Nat → Int32} (h : al10 A B) (n : Nat) {x y : Int32} (e : x = y) : al10 (upd A n x) (upd B n y) := fun q hq => by
  rw [upd_at, upd_at, h q hq, e]
theorem stp_al (h : IH m c g l) {j : Nat} (hj : j < c) (s : Int32) {A B : Nat → Int32} (e : al10 A B) : al10 (stp m g j s A) (stp m g j s B) := by
  obtain ⟨a, ea, ha, na, hln⟩ := h.nums hj
  have ea' : A (nv (m.1 70 j)) = B (nv (m.1 70 j)) := e _ (by omega)
  unfold stp
  simp only
  rw [ea']
  rcases h.kc hj with k | k | k | k | k
  · rw [if_pos k, if_pos k]
    exact al_upd (al_upd e _ rfl) _ rfl
  · rw [if_neg (show ¬ m.1 68 j = 0 by rw [k]; decide), if_pos k, if_neg (show ¬ m.1 68 j = 0 by rw [k]; decide), if_pos k]
    exact al_upd (al_upd (al_upd e _ rfl) _ rfl) _ rfl
  · obtain ⟨b, hb, eb, -, hne⟩ := h.br j hj (Or.inl k)
    have eb' : A (nv (m.1 71 j)) = B (nv (m.1 71 j)) := e _ (by rw [eb, nv_nI (by omega)]; omega)
    rw [if_neg (show ¬ m.1 68 j = 0 by rw [k]; decide), if_neg (show ¬ m.1 68 j = 1 by rw [k]; decide), if_pos k, if_neg (show ¬ m.1 68 j = 0 by rw [k]; decide), if_neg (show ¬ m.1 68 j = 1 by rw [k]; decide), if_pos k, eb']
    exact al_upd (al_upd e _ rfl) _ rfl
  · rw [if_neg (show ¬ m.1 68 j = 0 by rw [k]; decide), if_neg (show ¬ m.1 68 j = 1 by rw [k]; decide), if_neg (show ¬ m.1 68 j = 2 by rw [k]; decide), if_neg (show ¬ m.1 68 j = 0 by rw [k]; decide), if_neg (show ¬ m.1 68 j = 1 by rw [k]; decide), if_neg (show ¬ m.1 68 j = 2 by rw [k]; decide)]
    exact e
  · rw [if_neg (show ¬ m.1 68 j = 0 by rw [k]; decide), if_neg (show ¬ m.1 68 j = 1 by rw [k]; decide), if_neg (show ¬ m.1 68 j = 2 by rw [k]; decide), if_neg (show ¬ m.1 68 j = 0 by rw [k]; decide), if_neg (show ¬ m.1 68 j = 1 by rw [k]; decide), if_neg (show ¬ m.1 68 j = 2 by rw [k]; decide)]
    exact e
theorem itS_al (h : IH m c g l) (s : Int32) : ∀ (n i : Nat), i + n ≤ c → ∀ {A B : Nat → Int32}, al10 A B → al10 (itS m g s n i A) (itS m g s n i B)
  | 0, _, _, _, _, e => e
  | n + 1, i, hi, A, B, e => by
    rw [itS_s, itS_s]
    exact itS_al h s n (i + 1) (by omega) (stp_al h (by omega) s e)
theorem d18_s (f : Nat) : sX1_divide_l18 (f + 1) = sX1_divide_b18 (sX1_divide_l18 f) := rfl
theorem l_dv18 (h : IH m c g l) (s : Int32) {C : Nat} (hC : C ≤ c) : ∀ (j i f : Nat), i + j = C → j < f → ∀ A, sX1_divide_l18 f (nI C) s (nI i) (up1 m 18 A) = some (0, up1 m 18 (itS m g s j i A)) := by
  have hc := h.cle
  intro j
  induction j with
  | zero =>
    intro i f hij hf A
    obtain ⟨f, rfl⟩ := fuel_s (Nat.lt_of_le_of_lt (Nat.zero_le _) hf)
    have : i = C := by omega
    subst this
    rw [d18_s]
    unfold sX1_divide_b18
    rw [if_pos (nI_le (Nat.le_refl _) (by omega))]
    rfl
  | succ j ih =>
    intro i f hij hf A
    obtain ⟨f, rfl⟩ := fuel_s (Nat.lt_of_le_of_lt (Nat.zero_le _) hf)
    rw [d18_s]
    unfold sX1_divide_b18
    rw [if_neg (nI_ge (by omega) (by omega)), p_dv1 h (by omega), cbE_some, nI_1, itS_s]
    exact ih (i + 1) f (by omega) (by omega) _
/-- one land has all -/
def one10 (q : Nat) (x : Int32) (k : Nat) : Int32 := if k = q then x else 0
theorem fill_s (f : Nat) : sJ7_fill_53178_l5 (f + 1) = sJ7_fill_53178_b5 (sJ7_fill_53178_l5 f) := rfl
theorem l_fill {K N : Nat} (hN : N ≤ 1000) (x : Int32) (m : pMem) : ∀ (j i f : Nat), i + j = N → j < f → ∀ A : Nat → Int32, (∀ q, q < i → A q = x) → ∃ B : Nat → Int32, sJ7_fill_53178_l5 f K N x (nI i) (nI N) (up1 m K A) = some (0, up1 m K B) ∧ ∀ q, q < N → B q = x := by
  intro j
  induction j with
  | zero =>
    intro i f hij hf A hA
    obtain ⟨f, rfl⟩ := fuel_s (Nat.lt_of_le_of_lt (Nat.zero_le _) hf)
    have : i = N := by omega
    subst this
    refine ⟨A, ?_, hA⟩
    rw [fill_s]
    unfold sJ7_fill_53178_b5
    rw [if_pos (nI_le (Nat.le_refl _) (by omega))]
  | succ j ih =>
    intro i f hij hf A hA
    obtain ⟨f, rfl⟩ := fuel_s (Nat.lt_of_le_of_lt (Nat.zero_le _) hf)
    obtain ⟨B, e1, e2⟩ := ih (i + 1) f (by omega) (by omega) (upd A i x) (fun q hq => by
      rw [upd_at]
      by_cases z : q = i
      · rw [if_pos z]
      · rw [if_neg z]
        exact hA q (by omega))
    refine ⟨B, ?_, e2⟩
    rw [fill_s]
    unfold sJ7_fill_53178_b5
    rw [if_neg (nI_ge (by omega) (by omega)), if_neg (noob (by omega) (by omega)), nI_clamp (by omega), bnd_eq, st_up, nI_1]
    exact e1
theorem p_fill (K : Nat) {N : Nat} (hN : N ≤ 1000) (x : Int32) (m : pMem) : ∃ B : Nat → Int32, sJ7_fill_53178 K N x m = some (0, up1 m K B) ∧ ∀ q, q < N → B q = x := by
  obtain ⟨B, e1, e2⟩ := l_fill (K := K) hN x m N 0 5000 (by omega) (by omega) (m.1 K) (fun q hq => absurd hq (Nat.not_lt_zero q))
  rw [up_id] at e1
  refine ⟨B, ?_, e2⟩
  unfold sJ7_fill_53178
  rw [bnd_eq]
  exact e1
theorem p_divide (h : IH m c g l) {a : Nat} (ha : a < 10) (x s : Int32) {i C : Nat} (hi : i ≤ C) (hC : C ≤ c) : ∃ A : Nat → Int32, sX1_divide (nI a) x (nI i) (nI C) s m = some (0, up1 m 18 A) ∧ al10 A (itS m g s (C - i) i (one10 a x)) := by
  have hc := h.cle
  obtain ⟨B, e1, e2⟩ := p_fill 18 (N := 10) (by omega) 0 m
  refine ⟨itS m g s (C - i) i (upd B a x), ?_, itS_al h s _ _ (by omega) (fun q hq => ?_)⟩
  · unfold sX1_divide
    rw [e1, cbE_some, if_neg (noob (by omega) (by omega)), nI_clamp (by omega), bnd_eq, st_up]
    exact l_dv18 h s hC (C - i) i 5000 (by omega) (by omega) _
  · unfold one10
    rw [upd_at, e2 q hq]
theorem bp_s (f : Nat) : sX9_beginPart_l2 (f + 1) = sX9_beginPart_b2 (sX9_beginPart_l2 f) := rfl
theorem l_bp {a : Nat} (ha : a < 10) (x : Int32) (m : pMem) : ∀ (j i f : Nat), i + j = 10 → j < f → ∀ A : Nat → Int32, (∀ q, q < i → A q = one10 a x q) → ∃ B : Nat → Int32, sX9_beginPart_l2 f (nI a) x (nI i) (up1 m 105 A) = some (0, up1 m 105 B) ∧ al10 B (one10 a x) := by
  intro j
  induction j with
  | zero =>
    intro i f hij hf A hA
    obtain ⟨f, rfl⟩ := fuel_s (Nat.lt_of_le_of_lt (Nat.zero_le _) hf)
    have : i = 10 := by omega
    subst this
    refine ⟨A, ?_, hA⟩
    rw [bp_s]
    unfold sX9_beginPart_b2
    rw [if_pos (show (10 : Int32) ≤ nI 10 by decide)]
  | succ j ih =>
    intro i f hij hf A hA
    obtain ⟨f, rfl⟩ := fuel_s (Nat.lt_of_le_of_lt (Nat.zero_le _) hf)
    obtain ⟨B, e1, e2⟩ := ih (i + 1) f (by omega) (by omega) (upd A i (one10 a x i)) (fun q hq => by
      rw [upd_at]
      by_cases z : q = i
      · rw [if_pos z, z]
      · rw [if_neg z]
        exact hA q (by omega))
    refine ⟨B, ?_, e2⟩
    rw [bp_s]
    unfold sX9_beginPart_b2 sX9_beginPart_b23
    rw [if_neg (show ¬ (10 : Int32) ≤ nI i from nI_ge (b := 10) (by omega) (by omega))]
    simp only [if_neg (noob (i := i) (n := 10) (by omega) (by omega)), nI_clamp (show i < 2 ^ 31 by omega), bnd_eq, st_up, nI_1]
    unfold one10 at e1
    by_cases z : i = a
    · rw [if_pos z] at e1
      rw [if_neg (not_not_intro (by rw [z]))]
      exact e1
    · rw [if_neg z] at e1
      rw [if_pos (fun y => z (nI_inj (by omega) (by omega) y))]
      exact e1
theorem p_bp {a : Nat} (ha : a < 10) (x : Int32) (m : pMem) : ∃ B : Nat → Int32, sX9_beginPart (nI a) x m = some (0, up1 m 105 B) ∧ al10 B (one10 a x) := by
  obtain ⟨B, e1, e2⟩ := l_bp ha x m 10 0 5000 (by omega) (by omega) (m.1 105) (fun q hq => absurd hq (Nat.not_lt_zero q))
  rw [up_id] at e1
  exact ⟨B, e1, e2⟩
end DV
