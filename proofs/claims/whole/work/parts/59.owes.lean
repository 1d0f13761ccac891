/-! debts and things: both sides -/
section OW
variable {m μ : pMem} {c g l d t n : Nat}
/-- what keys and divisions rest on -/
def gB (m μ : pMem) : Prop := μ.1 64 = m.1 64 ∧ μ.1 65 = m.1 65 ∧ μ.1 68 = m.1 68 ∧ μ.1 69 = m.1 69 ∧ μ.1 70 = m.1 70 ∧ μ.1 71 = m.1 71 ∧ μ.1 72 = m.1 72 ∧ μ.1 74 = m.1 74 ∧ μ.1 95 = m.1 95 ∧ μ.1 96 = m.1 96 ∧ μ.1 97 = m.1 97 ∧ μ.1 98 = m.1 98 ∧ μ.1 99 = m.1 99 ∧ μ.1 100 = m.1 100 ∧ μ.1 101 = m.1 101
theorem fr.toG (f : fr m μ) : gB m μ := by
  have z : ∀ k, 64 ≤ k → k < 77 → μ.1 k = m.1 k := fun k h1 h2 => f.1 k (by omega) (by omega) (by omega) (by omega) (by omega) (by omega) (by omega) (by omega)
  have y : ∀ k, 95 ≤ k → k < 105 → μ.1 k = m.1 k := fun k h1 h2 => f.1 k (by omega) (by omega) (by omega) (by omega) (by omega) (by omega) (by omega) (by omega)
  exact ⟨z 64 (by omega) (by omega), z 65 (by omega) (by omega), z 68 (by omega) (by omega), z 69 (by omega) (by omega), z 70 (by omega) (by omega), z 71 (by omega) (by omega), z 72 (by omega) (by omega), z 74 (by omega) (by omega), y 95 (by omega) (by omega), y 96 (by omega) (by omega), y 97 (by omega) (by omega), y 98 (by omega) (by omega), y 99 (by omega) (by omega), y 100 (by omega) (by omega), y 101 (by omega) (by omega)⟩
theorem ky_c (b : gB m μ) (g j : Nat) (s S : Int32) : ky μ g j s S = ky m g j s S := by
  obtain ⟨e64, e65, e68, e69, e70, e71, e72, e74, -⟩ := b
  unfold ky allG
  rw [e64, e65, e70, e74]
theorem kx_c (b : gB m μ) (g j : Nat) (s : Int32) : kx μ g j s = kx m g j s := by
  have b' := b
  obtain ⟨e64, e65, e68, e69, e70, e71, e72, e74, -⟩ := b'
  unfold kx
  rw [e72, ky_c b]
theorem kz_c (b : gB m μ) (g j : Nat) (s : Int32) : kz μ g j s = kz m g j s := by
  have b' := b
  obtain ⟨e64, e65, e68, e69, e70, e71, e72, e74, -⟩ := b'
  unfold kz allG
  rw [e70, e72, e74, ky_c b]
theorem stp_c (b : gB m μ) (g j : Nat) (s : Int32) (A : Nat → Int32) : stp μ g j s A = stp m g j s A := by
  have b' := b
  obtain ⟨e64, e65, e68, e69, e70, e71, e72, e74, -⟩ := b'
  unfold stp
  rw [e68, e70, e71, kx_c b, kz_c b]
theorem itS_c (b : gB m μ) (g : Nat) (s : Int32) : ∀ (n i : Nat) (A : Nat → Int32), itS μ g s n i A = itS m g s n i A
  | 0, _, _ => rfl
  | n + 1, i, A => by rw [itS_s, itS_s, stp_c b, itS_c b g s n (i + 1)]
/-- what a land owes of a debt -/
def dbS (m : pMem) (c g x q : Nat) (u s : Int32) : Int32 :=
  if u < m.1 98 x then 0
  else if m.1 97 x = -1 then itS m g s (IHc m c u - IHc m c (m.1 98 x)) (IHc m c (m.1 98 x)) (one10 (nv (m.1 95 x)) (m.1 96 x)) q
  else if m.1 74 (8 * IHc m c u + nv (m.1 97 x)) = nI q then m.1 96 x else 0
theorem dbS_c (b : gB m μ) (c g x q : Nat) (u s : Int32) : dbS μ c g x q u s = dbS m c g x q u s := by
  have b' := b
  obtain ⟨e64, e65, e68, e69, e70, e71, e72, e74, e95, e96, e97, e98, e99, e100, e101⟩ := b'
  unfold dbS IHc
  rw [itS_c b, e69, e74, e95, e96, e97, e98]
theorem cntD_mono {dy : Nat → Int32} {d e : Int32} (h : d ≤ e) : ∀ n, cntD dy d n ≤ cntD dy e n
  | 0 => Nat.le_refl _
  | n + 1 => by
    have ih := cntD_mono (dy := dy) h n
    rw [cntD_s, cntD_s]
    by_cases z : e < dy n
    · rw [if_pos z, if_pos (Int32.lt_of_le_of_lt h z)]
      omega
    · rw [if_neg z]
      split <;> omega
theorem p_owed1 (h : IH m c g l) (hG : IG m g l d t n) {x q u : Nat} (hx : x < d) (hq : q < l) (hu : u ≤ 999) (s : Int32) : ∃ A : Nat → Int32, sX1_owedBy (nI x) (nI q) (nI u) s m = some (dbS m c g x q (nI u) s, up1 m 18 A) := by
  have hd := hG.dle
  have hl := h.lle
  have hg := h.gle
  have hc := h.cle
  have hcu := h.cle' (nI u)
  obtain ⟨o, ho, eo⟩ := hG.dlr x hx
  unfold sX1_owedBy sX1_owedBy_b61 dbS
  rw [hG.dd, hG.dg, hG.dl, hG.dsu, h.changesBy, cbR_some]
  simp only [if_neg (noob (i := x) (n := 8) (by omega) (by omega)), nI_clamp (show x < 2 ^ 31 by omega)]
  by_cases a0 : nI u < m.1 98 x
  · rw [if_neg (Int32.not_le.mpr a0), if_pos a0]
    exact ⟨m.1 18, by rw [up_id]⟩
  · rw [if_pos (Int32.not_lt.mp a0), if_neg a0]
    by_cases a1 : m.1 97 x = -1
    · rw [if_pos a1, if_pos a1, h.changesBy, cbR_some, eo]
      obtain ⟨A, e1, e2⟩ := p_divide h (a := o) (by omega) (m.1 96 x) s (cntD_mono (dy := m.1 69) (Int32.not_lt.mp a0) c) hcu
      rw [e1, cbE_some, if_neg (noob (by omega) (by omega)), nI_clamp (by omega), up_at, e2 q (by omega), nv_nI (by omega)]
      exact ⟨A, rfl⟩
    · obtain ⟨gk, hgk, egk⟩ := (hG.dgr x hx).resolve_left a1
      obtain ⟨y, hy, e1, e2, e3⟩ := h.ownerOf hcu hgk
      rw [if_neg a1, if_neg a1, egk, e3, cbR_some, nv_nI (by omega), e1]
      by_cases a2 : nI y = nI q
      · rw [if_neg (not_not_intro a2), if_pos a2]
        exact ⟨m.1 18, by rw [up_id]⟩
      · rw [if_pos a2, if_neg a2]
        exact ⟨m.1 18, by rw [up_id]⟩
theorem w80_s (f : Nat) : sX9_owesOf_l80 (f + 1) = sX9_owesOf_b80 (sX9_owesOf_l80 f) := rfl
theorem l_w80 (h : IH m c g l) {x q : Nat} (hx : x < 8) (hq : q < 10) {s : Int32} (hs : s = 0 ∨ s = 1 ∨ s = 2) {C : Nat} (hC : C ≤ c) : ∀ (j i f : Nat), i + j = C → j < f → ∀ A : Nat → Int32, ∃ B : Nat → Int32, sX9_owesOf_l80 f (nI x) (nI q) s (nI C) (nI i) (up1 m 105 A) = some (B q, up1 m 105 B) ∧ B = itS m g s (C - max i (IHc m c (m.1 98 x))) (max i (IHc m c (m.1 98 x))) A := by
  have hc := h.cle
  intro j
  induction j with
  | zero =>
    intro i f hij hf A
    obtain ⟨f, rfl⟩ := fuel_s (Nat.lt_of_le_of_lt (Nat.zero_le _) hf)
    have : i = C := by omega
    subst this
    refine ⟨A, ?_, ?_⟩
    · rw [w80_s]
      unfold sX9_owesOf_b80
      rw [if_pos (nI_le (Nat.le_refl _) (by omega)), if_neg (noob (by omega) hq), nI_clamp (by omega), up_at]
    · rw [show i - max i (IHc m c (m.1 98 x)) = 0 by omega]
      rfl
  | succ j ih =>
    intro i f hij hf A
    obtain ⟨f, rfl⟩ := fuel_s (Nat.lt_of_le_of_lt (Nat.zero_le _) hf)
    have hi : i < c := by omega
    have ci := cntD_iff h.ds (d := m.1 98 x) i hi
    rw [w80_s]
    unfold sX9_owesOf_b80 sX9_owesOf_b111
    rw [if_neg (nI_ge (by omega) (by omega)), show (up1 m 105 A).1 69 = m.1 69 from rfl, show (up1 m 105 A).1 98 = m.1 98 from rfl, if_neg (noob (by omega) (by omega)), if_neg (noob (by omega) (by omega)), nI_clamp (by omega), nI_clamp (by omega), nI_1]
    by_cases z : m.1 69 i ≤ m.1 98 x
    · rw [if_pos z]
      obtain ⟨B, e1, e2⟩ := ih (i + 1) f (by omega) (by omega) A
      refine ⟨B, e1, ?_⟩
      have : i < cntD (m.1 69) (m.1 98 x) c := ci.mpr (Int32.not_lt.mpr z)
      rw [e2, show max (i + 1) (IHc m c (m.1 98 x)) = max i (IHc m c (m.1 98 x)) by
        have : i < IHc m c (m.1 98 x) := this
        omega]
    · rw [if_neg z, p_dv9 h hi hs, cbE_some]
      obtain ⟨B, e1, e2⟩ := ih (i + 1) f (by omega) (by omega) (stp m g i s A)
      refine ⟨B, e1, ?_⟩
      have : ¬ i < IHc m c (m.1 98 x) := fun y => z (Int32.not_lt.mp (ci.mp y))
      rw [e2, show max (i + 1) (IHc m c (m.1 98 x)) = i + 1 by omega, show max i (IHc m c (m.1 98 x)) = i by omega, show C - i = (C - (i + 1)) + 1 by omega, itS_s]
theorem p_owed9 (h : IH m c g l) (hG : IG m g l d t n) {x q u : Nat} (hx : x < d) (hq : q < l) (hu : u ≤ 999) {s : Int32} (hs : s = 0 ∨ s = 1 ∨ s = 2) : ∃ A : Nat → Int32, sX9_owesOf (nI x) (nI q) (nI u) s m = some (dbS m c g x q (nI u) s, up1 m 105 A) := by
  have hd := hG.dle
  have hl := h.lle
  have hg := h.gle
  have hc := h.cle
  have hcu := h.cle' (nI u)
  obtain ⟨o, ho, eo⟩ := hG.dlr x hx
  unfold sX9_owesOf sX9_owesOf_b60 dbS
  rw [h.doneBy, cbR_some]
  simp only [if_neg (noob (i := x) (n := 8) (by omega) (by omega)), nI_clamp (show x < 2 ^ 31 by omega)]
  by_cases a0 : nI u < m.1 98 x
  · rw [if_neg (Int32.not_le.mpr a0), if_pos a0]
    exact ⟨m.1 105, by rw [up_id]⟩
  · rw [if_pos (Int32.not_lt.mp a0), if_neg a0]
    by_cases a1 : m.1 97 x = -1
    · rw [if_pos a1, if_pos a1, eo]
      obtain ⟨B, e1, e2⟩ := p_bp (a := o) (by omega) (m.1 96 x) m
      obtain ⟨D, e3, e4⟩ := l_w80 h (x := x) (q := q) (by omega) (by omega) hs hcu (IHc m c (nI u)) 0 5000 (by omega) (by omega) B
      have hle : IHc m c (m.1 98 x) ≤ IHc m c (nI u) := cntD_mono (dy := m.1 69) (Int32.not_lt.mp a0) c
      refine ⟨D, ?_⟩
      rw [e1, cbE_some, nv_nI (by omega)]
      refine e3.trans ?_
      rw [e4, Nat.zero_max]
      congr 2
      exact itS_al h s _ _ (by omega) e2 q (by omega)
    · obtain ⟨gk, hgk, egk⟩ := (hG.dgr x hx).resolve_left a1
      obtain ⟨y, hy, e1, e2, e3⟩ := h.ownerOf hcu hgk
      rw [if_neg a1, if_neg a1, egk, nv_nI (by omega), show (8 : Int32) * nI (IHc m c (nI u)) + nI gk = nI (8 * IHc m c (nI u) + gk) from by rw [show (8 : Int32) = nI 8 from rfl, nI_mul, nI_add], if_neg (noob (by omega) (by omega)), nI_clamp (by omega), e1]
      by_cases a2 : nI y = nI q
      · rw [if_neg (not_not_intro a2), if_pos a2]
        exact ⟨m.1 105, by rw [up_id]⟩
      · rw [if_pos a2, if_neg a2]
        exact ⟨m.1 105, by rw [up_id]⟩
end OW
