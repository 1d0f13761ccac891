/-! both sides by rank -/
/-- a land that stands for who signed -/
def rkC (m : pMem) (v C i : Nat) (d : Int32) (q : Nat) : Bool := decide (m.1 66 q = m.1 80 i ∧ bt (m.1 75 C) q = true ∧ sdB m (nI q) C = true ∧ ¬ vS m v (nI q) d 6 ≤ 0)
def rkF (m : pMem) (v C i : Nat) (d : Int32) : Nat → Nat → Nat
  | 0, _ => nv (m.1 80 i)
  | j + 1, q => if rkC m v C i d q = true then q else rkF m v C i d j (q + 1)
theorem rkF_s (m : pMem) (v C i : Nat) (d : Int32) (j q : Nat) : rkF m v C i d (j + 1) q = if rkC m v C i d q = true then q else rkF m v C i d j (q + 1) := rfl
theorem l_rank {m : pMem} {c g l p w v C i : Nat} (h : IH m c g l) (hP : IQ m c g l p w v) (hC : C ≤ c) (hi : i < p) (d : Int32) : ∀ (j q f : Nat), q + j = l → j < f → ∃ r, r = rkF m v C i d j q ∧ r < l ∧ sX3_boundByRank_l3 f (nI i) d (nI C) (nI q) m = some (nI r) ∧ sX9_byRank_l3 f (nI i) (nI C) d (nI q) m = some (if bt (m.1 75 C) r = true then (1 : Int32) <<< (nI r &&& 31) else 0) := by
  have hc := h.cle
  have hl := h.lle
  have hp := hP.ple
  intro j
  induction j with
  | zero =>
    intro q f hij hf
    obtain ⟨f, rfl⟩ := fuel_s (Nat.lt_of_le_of_lt (Nat.zero_le _) hf)
    have : q = l := by omega
    subst this
    obtain ⟨s, hs, es⟩ := hP.lr i hi
    refine ⟨s, (by show s = nv (m.1 80 i); rw [es, nv_nI (by omega)]), hs, ?_, ?_⟩
    · rw [k3_s]
      unfold sX3_boundByRank_b3
      rw [h.l3, if_pos (nI_le (Nat.le_refl _) (by omega)), if_neg (noob (by omega) (by omega)), nI_clamp (by omega), hP.sgn, es]
    · rw [k9_s]
      unfold sX9_byRank_b3
      rw [h.l9, if_pos (nI_le (Nat.le_refl _) (by omega)), if_neg (noob (by omega) (by omega)), if_neg (noob (by omega) (by omega)), nI_clamp (by omega), nI_clamp (by omega), es, b_only _ (by omega)]
  | succ j ih =>
    intro q f hij hf
    obtain ⟨f, rfl⟩ := fuel_s (Nat.lt_of_le_of_lt (Nat.zero_le _) hf)
    obtain ⟨r, y0, hr, y1, y2⟩ := ih (q + 1) f (by omega) (by omega)
    have yes : rkC m v C i d q = true → q = rkF m v C i d (j + 1) q := fun z => by rw [rkF_s, if_pos z]
    have no : ¬ (m.1 66 q = m.1 80 i ∧ bt (m.1 75 C) q = true ∧ sdB m (nI q) C = true ∧ ¬ vS m v (nI q) d 6 ≤ 0) → r = rkF m v C i d (j + 1) q := fun z => by rw [rkF_s, if_neg (show ¬ rkC m v C i d q = true from fun y => z (by unfold rkC at y; exact of_decide_eq_true y)), y0]
    have hq : q < l := by omega
    have th : isTh (m.1 75 C) (nI q) l ↔ bt (m.1 75 C) q = true := ⟨fun z => by have := z.2; rw [nv_nI (by omega)] at this; exact this, fun z => ⟨(inN_iff (show l < 2 ^ 31 by omega)).mpr ⟨q, hq, rfl⟩, by rw [nv_nI (by omega)]; exact z⟩⟩
    have sd2 : sX2_saidSame (nI q) (nI C) m = some (bI (sdB m (nI q) C = true)) := l_said (by omega) h.knd h.fst (nI q) C 0 5000 (by omega) (by omega) rfl
    have sd9 := l_said9 (m := m) (c := C) (v := v) (by omega) hP.vle hP.v9 (sX9_byRank_l3 f) (nI i) d q C 0 5000 (by omega) (by omega) 0 (bI_f (show ¬ false = true by decide)).symm
    have mv := p_more6 hP.vle hP.v7 hP.vt hP.vl hP.vd hP.vy (nI q) d
    rw [k3_s, k9_s]
    unfold sX3_boundByRank_b3 sX3_boundByRank_b51 sX3_boundByRank_b52 sX3_boundByRank_b88 sX9_byRank_b3 sX9_byRank_b111
    rw [h.l3, h.l9, if_neg (nI_ge (by omega) (by omega)), if_neg (nI_ge (by omega) (by omega)), h.par, hP.sgn, h.isThere2 hC, cbR_some, h.isThere9 hC, cbR_some, sd2, cbR_some, mv, cbR_some]
    simp only [if_neg (noob (i := q) (n := 10) (by omega) (by omega)), if_neg (noob (i := i) (n := 12) (by omega) (by omega)), nI_clamp (show q < 2 ^ 31 by omega), nI_clamp (show i < 2 ^ 31 by omega), nI_1]
    by_cases a1 : m.1 66 q = m.1 80 i
    · rw [if_neg (not_not_intro a1), if_neg (not_not_intro a1)]
      by_cases a2 : bt (m.1 75 C) q = true
      · rw [bI_t (th.mpr a2), if_neg n10, if_neg n10, if_neg n10]
        show ∃ r, _ ∧ r < l ∧ _ ∧ sX9_byRank_l44 (sX9_byRank_l3 f) 5000 (nI i) (nI C) d (nI q) 0 0 m = _
        rw [show sX9_byRank_l44 (sX9_byRank_l3 f) 5000 (nI i) (nI C) d (nI q) 0 0 m = _ from sd9]
        by_cases a3 : sdB m (nI q) C = true
        · rw [bI_t a3, if_neg n10]
          by_cases a4 : vS m v (nI q) d 6 ≤ 0
          · rw [bI_f (not_not_intro a4), if_pos rfl, if_neg (fun z => z.2 a4)]
            exact ⟨r, no (fun z => z.2.2.2 a4), hr, y1, y2⟩
          · rw [bI_t a4, if_neg n10, if_pos ⟨a3, a4⟩]
            exact ⟨q, yes (decide_eq_true ⟨a1, a2, a3, a4⟩), hq, rfl, by rw [if_pos a2]⟩
        · rw [bI_f a3, if_pos rfl, if_neg (fun z => a3 z.1)]
          exact ⟨r, no (fun z => a3 z.2.2.1), hr, y1, y2⟩
      · have nt : ¬ isTh (m.1 75 C) (nI q) l := fun z => a2 (th.mp z)
        rw [bI_f nt]
        simp only [if_true]
        exact ⟨r, no (fun z => a2 z.2.1), hr, y1, y2⟩
    · rw [if_pos a1, if_pos a1]
      by_cases a2 : bt (m.1 75 C) q = true
      · rw [bI_t (th.mpr a2), if_neg n10]
        exact ⟨r, no (fun z => a1 z.1), hr, y1, y2⟩
      · have nt : ¬ isTh (m.1 75 C) (nI q) l := fun z => a2 (th.mp z)
        rw [bI_f nt]
        simp only [if_true]
        exact ⟨r, no (fun z => a1 z.1), hr, y1, y2⟩
theorem q_rank {m : pMem} {c g l p w v C i : Nat} (h : IH m c g l) (hP : IQ m c g l p w v) (hC : C ≤ c) (hi : i < p) (d : Int32) : ∃ r, r = rkF m v C i d l 0 ∧ r < l ∧ sX3_boundByRank (nI i) d (nI C) m = some (nI r) ∧ sX9_byRank (nI i) (nI C) d m = some (if bt (m.1 75 C) r = true then (1 : Int32) <<< (nI r &&& 31) else 0) := l_rank h hP hC hi d l 0 5000 (by omega) (by have := h.lle; omega)
