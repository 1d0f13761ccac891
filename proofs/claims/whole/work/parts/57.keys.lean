/-! keys of grounds -/
/-- all grounds of the land that a change divides -/
def allG (m : pMem) (g j : Nat) : Int32 := gof (m.1 74) (m.1 70 j) j g
/-- the key of a set of them -/
def ky (m : pMem) (g j : Nat) (s : Int32) (S : Int32) : Int32 := if s = 0 then sumB (m.1 64) S g else if s = 2 ∨ sumB (m.1 65) (allG m g j) g = 0 then 1 else sumB (m.1 65) S g
def kx (m : pMem) (g j : Nat) (s : Int32) : Int32 := ky m g j s (m.1 72 j)
def kz (m : pMem) (g j : Nat) (s : Int32) : Int32 := ky m g j s (allG m g j &&& (m.1 72 j ^^^ (-1 : Int32)))
theorem sumB_n {f : Nat → Int32} (S : Int32) : ∀ {n : Nat}, (∀ i, i < n → ∃ k, k ≤ 999 ∧ f i = nI k) → ∃ k, k ≤ 999 * n ∧ sumB f S n = nI k
  | 0, _ => ⟨0, by omega, rfl⟩
  | n + 1, h => by
    obtain ⟨k, hk, ek⟩ := sumB_n (f := f) S (n := n) (fun i hi => h i (by omega))
    obtain ⟨j, hj, ej⟩ := h n (by omega)
    rw [sumB_s, ek]
    by_cases z : bt S n = true
    · rw [if_pos z, ej, nI_add]
      exact ⟨_, by omega, rfl⟩
    · rw [if_neg z, Int32.add_zero]
      exact ⟨k, by omega, rfl⟩
theorem sumB_p {f : Nat → Int32} {S : Int32} {b : Nat} (hb : bt S b = true) : ∀ {n : Nat}, b < n → (∀ i, i < n → ∃ k, 1 ≤ k ∧ k ≤ 999 ∧ f i = nI k) → ∃ k, 1 ≤ k ∧ k ≤ 999 * n ∧ sumB f S n = nI k
  | 0, h, _ => absurd h (Nat.not_lt_zero _)
  | n + 1, h, hf => by
    obtain ⟨j, hj1, hj, ej⟩ := hf n (by omega)
    obtain ⟨k, hk, ek⟩ := sumB_n (f := f) S (n := n) (fun i hi => by
      obtain ⟨k, _, h2, h3⟩ := hf i (by omega)
      exact ⟨k, h2, h3⟩)
    rcases Nat.lt_or_ge b n with z | z
    · obtain ⟨k', h1', hk', ek'⟩ := sumB_p hb z (fun i hi => hf i (by omega))
      rw [sumB_s, ek']
      by_cases z : bt S n = true
      · rw [if_pos z, ej, nI_add]
        exact ⟨_, by omega, by omega, rfl⟩
      · rw [if_neg z, Int32.add_zero]
        exact ⟨k', by omega, by omega, rfl⟩
    · have : b = n := by omega
      subst this
      rw [sumB_s, ek, if_pos hb, ej, nI_add]
      exact ⟨_, by omega, by omega, rfl⟩
theorem sumB_add {f : Nat → Int32} {S A : Int32} : ∀ {n : Nat}, n ≤ 31 → (∀ i, i < n → bt S i = true → bt A i = true) → sumB f S n + sumB f (A &&& (S ^^^ (-1 : Int32))) n = sumB f A n
  | 0, _, _ => by
    show (0 : Int32) + 0 = 0
    decide
  | n + 1, hn, h => by
    have ih := sumB_add (f := f) (S := S) (A := A) (n := n) (by omega) (fun i hi => h i (by omega))
    have hz : bt (A &&& (S ^^^ (-1 : Int32))) n = (bt A n && !bt S n) := by
      rw [b_and, b_xor, b_m1 n (by omega)]
      cases bt S n <;> rfl
    rw [sumB_s, sumB_s, sumB_s, hz, ← ih]
    cases hs : bt S n with
    | true =>
      have ha := h n (by omega) hs
      rw [ha, if_pos rfl, if_neg (by decide), Int32.add_zero, Int32.add_assoc, Int32.add_comm (f n), ← Int32.add_assoc]
    | false =>
      rw [if_neg (by decide), Int32.add_zero]
      cases ha : bt A n with
      | true => rw [if_pos (by decide), if_pos rfl, Int32.add_assoc]
      | false => rw [if_neg (by decide), if_neg (by decide), Int32.add_zero, Int32.add_zero]
section KY
variable {m : pMem} {c g l : Nat}
theorem IH.sub (h : IH m c g l) {j : Nat} (hj : j < c) (hk : m.1 68 j = 0 ∨ m.1 68 j = 1) : ∀ i, i < 32 → bt (m.1 72 j) i = true → i < g ∧ bt (allG m g j) i = true := fun i hi hb => by
  have hg := h.gle
  obtain ⟨h1, h2⟩ := h.sbit hj (by rcases hk with k | k <;> simp [k]) hi hb
  refine ⟨h1, ?_⟩
  unfold allG
  rw [gof_bt _ _ _ g (by omega) i hi]
  simp [h1, h2]
theorem IH.some1 (h : IH m c g l) {j : Nat} (hj : j < c) (hk : m.1 68 j = 0 ∨ m.1 68 j = 1) : ∃ i, i < g ∧ bt (m.1 72 j) i = true ∧ bt (allG m g j) i = true := by
  obtain ⟨h0, -, -⟩ := h.sr j hj (by rcases hk with k | k <;> simp [k])
  by_cases z : ∃ i, i < 32 ∧ bt (m.1 72 j) i = true
  · obtain ⟨i, hi, hb⟩ := z
    obtain ⟨h1, h2⟩ := h.sub hj hk i hi hb
    exact ⟨i, h1, hb, h2⟩
  · exact absurd (b_ext (fun i hi => by
      rw [b_0]
      cases hb : bt (m.1 72 j) i with
      | false => rfl
      | true => exact absurd ⟨i, hi, hb⟩ z)) h0
/-- both keys, and that together they are not nothing -/
theorem IH.kxz (h : IH m c g l) {j : Nat} (hj : j < c) (hk : m.1 68 j = 0 ∨ m.1 68 j = 1) (s : Int32) : ∃ a b, a ≤ 8000 ∧ b ≤ 8000 ∧ 1 ≤ a + b ∧ kx m g j s = nI a ∧ kz m g j s = nI b := by
  have hg := h.gle
  obtain ⟨i, hi, hb, hA⟩ := h.some1 hj hk
  have hsub := h.sub hj hk
  have hh : ∀ i, i < g → ∃ k, k ≤ 999 ∧ m.1 64 i = nI k := fun i hi => by
    obtain ⟨k, _, h2, h3⟩ := h.hr i hi
    exact ⟨k, h2, h3⟩
  unfold kx kz ky
  by_cases s0 : s = 0
  · rw [if_pos s0, if_pos s0]
    obtain ⟨a, ha1, ha, ea⟩ := sumB_p (f := m.1 64) hb hi h.hr
    obtain ⟨b, hb', eb⟩ := sumB_n (f := m.1 64) (allG m g j &&& (m.1 72 j ^^^ (-1 : Int32))) hh
    exact ⟨a, b, by omega, by omega, by omega, ea, eb⟩
  · rw [if_neg s0, if_neg s0]
    by_cases s2 : s = 2 ∨ sumB (m.1 65) (allG m g j) g = 0
    · rw [if_pos s2, if_pos s2]
      exact ⟨1, 1, by omega, by omega, by omega, rfl, rfl⟩
    · rw [if_neg s2, if_neg s2]
      obtain ⟨a, ha, ea⟩ := sumB_n (f := m.1 65) (m.1 72 j) h.wr
      obtain ⟨b, hb', eb⟩ := sumB_n (f := m.1 65) (allG m g j &&& (m.1 72 j ^^^ (-1 : Int32))) h.wr
      have e := sumB_add (f := m.1 65) (S := m.1 72 j) (A := allG m g j) (n := g) (by omega) (fun i hi hb => (hsub i (by omega) hb).2)
      rw [ea, eb, nI_add] at e
      refine ⟨a, b, by omega, by omega, ?_, ea, eb⟩
      rcases Nat.eq_zero_or_pos (a + b) with z | z
      · rw [z] at e
        exact absurd e.symm (fun y => s2 (Or.inr y))
      · exact z
theorem IH.union (h : IH m c g l) {j : Nat} (hj : j < c) (hk : m.1 68 j = 0 ∨ m.1 68 j = 1) : m.1 106 j ||| m.1 107 j = allG m g j := by
  rw [h.sof, h.soo j hj]
  apply b_ext
  intro i hi
  have z := h.sub hj hk i hi
  rw [b_or, b_and, b_xor, b_m1 i hi]
  show (bt (m.1 72 j) i || (bt (allG m g j) i && (bt (m.1 72 j) i ^^ true))) = bt (allG m g j) i
  cases e : bt (m.1 72 j) i with
  | false => simp
  | true => rw [(z e).2]; rfl
theorem p_key1 (h : IH m c g l) {j : Nat} (hj : j < c) (hk : m.1 68 j = 0 ∨ m.1 68 j = 1) (s S : Int32) : sX1_key S (nI j) s m = some (ky m g j s S) := by
  have hc := h.cle
  unfold sX1_key sX1_key_b65 ky
  simp only [if_neg (noob (i := j) (n := 12) (by omega) (by omega)), nI_clamp (show j < 2 ^ 31 by omega)]
  rw [h.union hj hk, bnd_eq, p_sumOf h.gle h.g3, cbR_some, p_sumOf h.gle h.g3, cbR_some, p_sumOf h.gle h.g3, cbR_some, h.heads, h.worth]
  by_cases s0 : s = 0
  · rw [if_neg (not_not_intro s0), if_pos s0]
  · rw [if_pos s0, if_neg s0]
    by_cases s2 : s = 2
    · rw [if_pos s2, if_pos (Or.inl s2)]
    · rw [if_neg s2]
      by_cases z : sumB (m.1 65) (allG m g j) g = 0
      · rw [if_neg (not_not_intro z), if_pos (Or.inr z)]
      · rw [if_pos z, if_neg (fun y => y.elim s2 z)]
theorem p_key9 (h : IH m c g l) {j : Nat} {s : Int32} (hs : s = 0 ∨ s = 1 ∨ s = 2) (S : Int32) : sX9_keyOf S (allG m g j) s m = some (ky m g j s S) := by
  unfold sX9_keyOf sX9_keyOf_b22 sX9_keyOf_b18 sX9_keyOf_b39 ky
  rw [p_headsOf h.gle h.g9, cbR_some, p_worthOf h.gle h.g9, cbR_some, p_worthOf h.gle h.g9, cbR_some]
  rcases hs with rfl | rfl | rfl
  · rw [if_neg (by decide), if_pos (by decide), if_neg (by decide), if_pos rfl]
  · rw [if_neg (by decide), if_neg (by decide), if_neg (show ¬ (1 : Int32) = 0 by decide)]
    by_cases z : sumB (m.1 65) (allG m g j) g = 0
    · rw [if_neg (not_not_intro z), if_pos (Or.inr z)]
    · rw [if_pos z, if_pos (show ¬ (1 : Int32) = 0 by decide), if_neg (fun y => y.elim (by decide) z)]
  · rw [if_pos rfl, if_neg (show ¬ (2 : Int32) = 0 by decide), if_pos (Or.inl rfl)]
theorem p_kf1 (h : IH m c g l) {j : Nat} (hj : j < c) (hk : m.1 68 j = 0 ∨ m.1 68 j = 1) (s : Int32) : sX1_key (m.1 106 j) (nI j) s m = some (kx m g j s) := by
  rw [h.sof]
  exact p_key1 h hj hk s _
theorem p_ko1 (h : IH m c g l) {j : Nat} (hj : j < c) (hk : m.1 68 j = 0 ∨ m.1 68 j = 1) (s : Int32) : sX1_key (m.1 107 j) (nI j) s m = some (kz m g j s) := by
  rw [h.soo j hj]
  exact p_key1 h hj hk s _
theorem p_po1 (h : IH m c g l) {j : Nat} (hj : j < c) (hk : m.1 68 j = 0 ∨ m.1 68 j = 1) (A s : Int32) : sX1_partOfFirst A (nI j) s m = some ((A * kx m g j s) / (kx m g j s + kz m g j s)) := by
  obtain ⟨a, b, ha, hb, hab, e1, e2⟩ := h.kxz hj hk s
  have hc := h.cle
  unfold sX1_partOfFirst sX1_partOfFirst_b53
  simp only [if_neg (noob (i := j) (n := 12) (by omega) (by omega)), nI_clamp (show j < 2 ^ 31 by omega)]
  rw [p_kf1 h hj hk, cbR_some, p_ko1 h hj hk, cbR_some, bnd_eq, e1, e2, nI_add, if_pos (show (0 : Int32) < nI (a + b) from nI_lt (a := 0) (by omega) (by omega)), if_neg (fun z => by
    have := nI_inj (a := a + b) (b := 0) (by omega) (by omega) z
    omega)]
end KY
