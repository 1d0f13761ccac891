/-! the one side does a change -/
def SM (m0 m : pMem) (C l : Nat) (R T F G H : Nat → Int32) : Prop :=
  (m.2 = m0.2) ∧ (∀ q, q ≠ 3 → q ≠ 21 → q ≠ 22 → q ≠ 23 → q ≠ 30 + C → q ≠ 43 → m.1 q = m0.1 q) ∧ (∀ q, q ≠ 6 → m.1 3 q = m0.1 3 q) ∧ (m.1 3 6 = nI l) ∧ (m.1 (30 + C) = R) ∧ (m.1 43 = T) ∧ (m.1 21 = F) ∧ (m.1 22 = G) ∧ (m.1 23 = H)
theorem SM.s2 {m0 m : pMem} {C l : Nat} {R T F G H : Nat → Int32} (h : SM m0 m C l R T F G H) : m.2 = m0.2 := h.1
theorem SM.fr {m0 m : pMem} {C l : Nat} {R T F G H : Nat → Int32} (h : SM m0 m C l R T F G H) : ∀ q, q ≠ 3 → q ≠ 21 → q ≠ 22 → q ≠ 23 → q ≠ 30 + C → q ≠ 43 → m.1 q = m0.1 q := h.2.1
theorem SM.o3 {m0 m : pMem} {C l : Nat} {R T F G H : Nat → Int32} (h : SM m0 m C l R T F G H) : ∀ q, q ≠ 6 → m.1 3 q = m0.1 3 q := h.2.2.1
theorem SM.len {m0 m : pMem} {C l : Nat} {R T F G H : Nat → Int32} (h : SM m0 m C l R T F G H) : m.1 3 6 = nI l := h.2.2.2.1
theorem SM.row {m0 m : pMem} {C l : Nat} {R T F G H : Nat → Int32} (h : SM m0 m C l R T F G H) : m.1 (30 + C) = R := h.2.2.2.2.1
theorem SM.thr {m0 m : pMem} {C l : Nat} {R T F G H : Nat → Int32} (h : SM m0 m C l R T F G H) : m.1 43 = T := h.2.2.2.2.2.1
theorem SM.par {m0 m : pMem} {C l : Nat} {R T F G H : Nat → Int32} (h : SM m0 m C l R T F G H) : m.1 21 = F := h.2.2.2.2.2.2.1
theorem SM.cam {m0 m : pMem} {C l : Nat} {R T F G H : Nat → Int32} (h : SM m0 m C l R T F G H) : m.1 22 = G := h.2.2.2.2.2.2.2.1
theorem SM.enb {m0 m : pMem} {C l : Nat} {R T F G H : Nat → Int32} (h : SM m0 m C l R T F G H) : m.1 23 = H := h.2.2.2.2.2.2.2.2
theorem st_fn (m : pMem) (k i : Nat) (v : Int32) : (st1 m k i v).1 k = upd (m.1 k) i v := by rw [st1_1, if_pos rfl]
section CG
variable {m0 m : pMem} {c l : Nat} {R T F G H : Nat → Int32}
theorem c_move (h : SM m0 m (c + 1) l R T F G H) (hc : c < 12) (h12 : m0.1 3 12 = nI (c + 1)) {a b : Nat} (ha : a < 10) (hb : b < 10) (s : Int32) : ∃ m', sX2_moveGrounds (nI a) (nI b) s m = some (0, m') ∧ SM m0 m' (c + 1) l (upd (upd R a (R a &&& (s ^^^ (-1 : Int32)))) b (upd R a (R a &&& (s ^^^ (-1 : Int32))) b ||| s)) T F G H := by
  have e12 : m.1 3 12 = nI (c + 1) := by rw [h.o3 12 (by omega)]; exact h12
  refine ⟨st1 (st1 m (30 + (c + 1)) a (R a &&& (s ^^^ (-1 : Int32)))) (30 + (c + 1)) b (upd R a (R a &&& (s ^^^ (-1 : Int32))) b ||| s), ?_, h.s2, fun q q1 q2 q3 q4 q5 q6 => ?_, fun q q1 => ?_, ?_, ?_, ?_, ?_, ?_, ?_⟩
  · unfold sX2_moveGrounds
    have e2 : (st1 m (30 + (c + 1)) a (R a &&& (s ^^^ (-1 : Int32)))).1 3 12 = nI (c + 1) := by rw [st_ne _ _ _ (by omega)]; exact e12
    have e3 : (st1 m (30 + (c + 1)) a (R a &&& (s ^^^ (-1 : Int32)))).1 (30 + (c + 1)) = upd R a (R a &&& (s ^^^ (-1 : Int32))) := by rw [st_fn, h.row]
    simp only [e12, if_neg (noob (i := c + 1) (n := 13) (by omega) (by omega)), if_neg (noob (i := a) (n := 10) (by omega) (by omega)), if_neg (noob (i := b) (n := 10) (by omega) (by omega)), bnd_eq, nI_clamp (show c + 1 < 2 ^ 31 by omega), nI_clamp (show a < 2 ^ 31 by omega), nI_clamp (show b < 2 ^ 31 by omega), h.row, e2, e3]
  · rw [st_ne _ _ _ q5, st_ne _ _ _ q5, h.fr q q1 q2 q3 q4 q5 q6]
  · rw [st_ne _ _ _ (by omega), st_ne _ _ _ (by omega), h.o3 q q1]
  · rw [st_ne _ _ _ (by omega), st_ne _ _ _ (by omega), h.len]
  · rw [st_fn, st_fn, h.row]
  · rw [st_ne _ _ _ (by omega), st_ne _ _ _ (by omega), h.thr]
  · rw [st_ne _ _ _ (by omega), st_ne _ _ _ (by omega), h.par]
  · rw [st_ne _ _ _ (by omega), st_ne _ _ _ (by omega), h.cam]
  · rw [st_ne _ _ _ (by omega), st_ne _ _ _ (by omega), h.enb]
theorem c_ends (h : SM m0 m (c + 1) l R T F G H) (hc : c < 12) (h12 : m0.1 3 12 = nI (c + 1)) {a : Nat} (ha : a < 10) : ∃ m', sX2_ends (nI a) m = some (0, m') ∧ SM m0 m' (c + 1) l R (upd T (c + 1) (T (c + 1) &&& (((1 : Int32) <<< (nI a &&& 31)) ^^^ (-1 : Int32)))) F G (upd H a (nI c)) := by
  have e12 : m.1 3 12 = nI (c + 1) := by rw [h.o3 12 (by omega)]; exact h12
  refine ⟨st1 (st1 m 43 (c + 1) (T (c + 1) &&& (((1 : Int32) <<< (nI a &&& 31)) ^^^ (-1 : Int32)))) 23 a (nI c), ?_, h.s2, fun q q1 q2 q3 q4 q5 q6 => ?_, fun q q1 => ?_, ?_, ?_, ?_, ?_, ?_, ?_⟩
  · unfold sX2_ends
    have e2 : (st1 m 43 (c + 1) (T (c + 1) &&& (((1 : Int32) <<< (nI a &&& 31)) ^^^ (-1 : Int32)))).1 3 12 = nI (c + 1) := by rw [st_ne _ _ _ (by omega)]; exact e12
    simp only [e12, if_neg (noob (i := c + 1) (n := 13) (by omega) (by omega)), if_neg (noob (i := a) (n := 10) (by omega) (by omega)), bnd_eq, nI_clamp (show c + 1 < 2 ^ 31 by omega), nI_clamp (show a < 2 ^ 31 by omega), h.thr, e2, nI_pred]
  · rw [st_ne _ _ _ q4, st_ne _ _ _ q6, h.fr q q1 q2 q3 q4 q5 q6]
  · rw [st_ne _ _ _ (by omega), st_ne _ _ _ (by omega), h.o3 q q1]
  · rw [st_ne _ _ _ (by omega), st_ne _ _ _ (by omega), h.len]
  · rw [st_ne _ _ _ (by omega), st_ne _ _ _ (by omega), h.row]
  · rw [st_ne _ _ _ (by omega), st_fn, h.thr]
  · rw [st_ne _ _ _ (by omega), st_ne _ _ _ (by omega), h.par]
  · rw [st_ne _ _ _ (by omega), st_ne _ _ _ (by omega), h.cam]
  · rw [st_fn, st_ne _ _ _ (by omega), h.enb]
theorem c_comes (h : SM m0 m (c + 1) l R T F G H) (hc : c < 12) (h12 : m0.1 3 12 = nI (c + 1)) (hl : l < 10) (a : Int32) : ∃ m', sX2_comesOutOf a m = some (0, m') ∧ SM m0 m' (c + 1) (l + 1) R (upd T (c + 1) (T (c + 1) ||| ((1 : Int32) <<< (nI l &&& 31)))) (upd F l a) (upd G l (m0.1 25 c)) (upd H l (-1)) := by
  have e12 : m.1 3 12 = nI (c + 1) := by rw [h.o3 12 (by omega)]; exact h12
  have e25 : m.1 25 = m0.1 25 := h.fr 25 (by omega) (by omega) (by omega) (by omega) (by omega) (by omega)
  refine ⟨st1 (st1 (st1 (st1 (st1 m 21 l a) 22 l (m0.1 25 c)) 23 l (-1)) 43 (c + 1) (T (c + 1) ||| ((1 : Int32) <<< (nI l &&& 31)))) 3 6 (nI (l + 1)), ?_, h.s2, fun q q1 q2 q3 q4 q5 q6 => ?_, fun q q1 => ?_, ?_, ?_, ?_, ?_, ?_, ?_⟩
  · unfold sX2_comesOutOf
    have d1 : sX2_latestDay (st1 m 21 l a) = some (m0.1 25 c) := by
      unfold sX2_latestDay sX2_latestDay_b22
      rw [show (st1 m 21 l a).1 3 12 = nI (c + 1) from e12, if_pos (show ¬ nI (c + 1) = 0 from fun z => absurd (nI_inj (b := 0) (by omega) (by omega) z) (by omega)), nI_pred, if_neg (noob (by omega) (by omega)), nI_clamp (by omega), show (st1 m 21 l a).1 25 = m0.1 25 from e25]
    have l1 : (st1 m 21 l a).1 3 6 = nI l := h.len
    have l2 : (st1 (st1 m 21 l a) 22 l (m0.1 25 c)).1 3 6 = nI l := h.len
    have l3 : (st1 (st1 (st1 m 21 l a) 22 l (m0.1 25 c)) 23 l (-1)).1 3 6 = nI l := h.len
    have l4 : (st1 (st1 (st1 m 21 l a) 22 l (m0.1 25 c)) 23 l (-1)).1 3 12 = nI (c + 1) := e12
    have l5 : (st1 (st1 (st1 m 21 l a) 22 l (m0.1 25 c)) 23 l (-1)).1 43 (c + 1) = T (c + 1) := by
      rw [st_ne _ _ _ (by omega), st_ne _ _ _ (by omega), st_ne _ _ _ (by omega), h.thr]
    have l6 : (st1 (st1 (st1 (st1 m 21 l a) 22 l (m0.1 25 c)) 23 l (-1)) 43 (c + 1) (T (c + 1) ||| ((1 : Int32) <<< (nI l &&& 31)))).1 3 6 = nI l := h.len
    simp only [h.len, if_neg (noob (i := l) (n := 10) (by omega) (by omega)), nI_clamp (show l < 2 ^ 31 by omega), bnd_eq, d1, cbR_some, l1, l2, l3, l4, l5, l6, if_neg (noob (i := c + 1) (n := 13) (by omega) (by omega)), nI_clamp (show c + 1 < 2 ^ 31 by omega), nI_1]
  · rw [st_ne _ _ _ q1, st_ne _ _ _ q6, st_ne _ _ _ q4, st_ne _ _ _ q3, st_ne _ _ _ q2, h.fr q q1 q2 q3 q4 q5 q6]
  · rw [st_at _ _ _ q1, st_ne _ _ _ (by omega), st_ne _ _ _ (by omega), st_ne _ _ _ (by omega), st_ne _ _ _ (by omega), h.o3 q q1]
  · rw [st_eq]
  · rw [st_ne _ _ _ (by omega), st_ne _ _ _ (by omega), st_ne _ _ _ (by omega), st_ne _ _ _ (by omega), st_ne _ _ _ (by omega), h.row]
  · rw [st_ne _ _ _ (by omega), st_fn, st_ne _ _ _ (by omega), st_ne _ _ _ (by omega), st_ne _ _ _ (by omega), h.thr]
  · rw [st_ne _ _ _ (by omega), st_ne _ _ _ (by omega), st_ne _ _ _ (by omega), st_ne _ _ _ (by omega), st_fn, h.par]
  · rw [st_ne _ _ _ (by omega), st_ne _ _ _ (by omega), st_ne _ _ _ (by omega), st_fn, st_ne _ _ _ (by omega), h.cam]
  · rw [st_ne _ _ _ (by omega), st_ne _ _ _ (by omega), st_fn, st_ne _ _ _ (by omega), st_ne _ _ _ (by omega), h.enb]
/-- grounds move -/
abbrev mvR (R : Nat → Int32) (a b : Nat) (s : Int32) : Nat → Int32 := upd (upd R a (R a &&& (s ^^^ (-1 : Int32)))) b (upd R a (R a &&& (s ^^^ (-1 : Int32))) b ||| s)
theorem c_part (h : SM m0 m (c + 1) l R T F G H) (hc : c < 12) (h12 : m0.1 3 12 = nI (c + 1)) {a : Nat} (ha : a < 10) (hl : l < 10) (s : Int32) : ∃ m', sX2_partOff (nI a) s m = some (0, m') ∧ SM m0 m' (c + 1) (l + 1) (mvR R a l s) (upd T (c + 1) (T (c + 1) ||| ((1 : Int32) <<< (nI l &&& 31)))) (upd F l (nI a)) (upd G l (m0.1 25 c)) (upd H l (-1)) := by
  obtain ⟨m1, e1, h1⟩ := c_comes h hc h12 hl (nI a)
  obtain ⟨m2, e2, h2⟩ := c_move h1 hc h12 ha hl s
  refine ⟨m2, ?_, h2⟩
  unfold sX2_partOff
  rw [h.len, bnd_eq, e1, cbE_some, e2, cbE_some]
theorem c_fall (h : SM m0 m (c + 1) l R T F G H) (hc : c < 12) (h12 : m0.1 3 12 = nI (c + 1)) {a : Nat} (ha : a < 10) (hl : l + 1 < 10) (s : Int32) : ∃ m', sX2_fallApart (nI a) s m = some (0, m') ∧ SM m0 m' (c + 1) (l + 2) (mvR (mvR R a l s) a (l + 1) (mvR R a l s a)) (upd (upd (upd T (c + 1) (T (c + 1) ||| ((1 : Int32) <<< (nI l &&& 31)))) (c + 1) (upd T (c + 1) (T (c + 1) ||| ((1 : Int32) <<< (nI l &&& 31))) (c + 1) ||| ((1 : Int32) <<< (nI (l + 1) &&& 31)))) (c + 1) (upd (upd T (c + 1) (T (c + 1) ||| ((1 : Int32) <<< (nI l &&& 31)))) (c + 1) (upd T (c + 1) (T (c + 1) ||| ((1 : Int32) <<< (nI l &&& 31))) (c + 1) ||| ((1 : Int32) <<< (nI (l + 1) &&& 31))) (c + 1) &&& (((1 : Int32) <<< (nI a &&& 31)) ^^^ (-1 : Int32)))) (upd (upd F l (nI a)) (l + 1) (nI a)) (upd (upd G l (m0.1 25 c)) (l + 1) (m0.1 25 c)) (upd (upd (upd H l (-1)) (l + 1) (-1)) a (nI c)) := by
  obtain ⟨m1, e1, h1⟩ := c_part h hc h12 ha (by omega) s
  obtain ⟨m2, e2, h2⟩ := c_part h1 hc h12 ha hl (mvR R a l s a)
  obtain ⟨m3, e3, h3⟩ := c_ends h2 hc h12 ha
  refine ⟨m3, ?_, h3⟩
  unfold sX2_fallApart
  rw [e1, cbE_some, show m1.1 3 12 = nI (c + 1) by rw [h1.o3 12 (by omega)]; exact h12, if_neg (noob (by omega) (by omega)), if_neg (noob (by omega) (by omega)), nI_clamp (by omega), nI_clamp (by omega), h1.row, e2, cbE_some, e3, cbE_some]
theorem c_join (h : SM m0 m (c + 1) l R T F G H) (hc : c < 12) (h12 : m0.1 3 12 = nI (c + 1)) {a b : Nat} (ha : a < 10) (hb : b < 10) : ∃ m', sX2_join (nI a) (nI b) m = some (0, m') ∧ SM m0 m' (c + 1) l (mvR R b a (R b)) (upd T (c + 1) (T (c + 1) &&& (((1 : Int32) <<< (nI b &&& 31)) ^^^ (-1 : Int32)))) F G (upd H b (nI c)) := by
  obtain ⟨m1, e1, h1⟩ := c_move h hc h12 hb ha (R b)
  obtain ⟨m2, e2, h2⟩ := c_ends h1 hc h12 hb
  refine ⟨m2, ?_, h2⟩
  unfold sX2_join
  rw [show m.1 3 12 = nI (c + 1) by rw [h.o3 12 (by omega)]; exact h12, if_neg (noob (by omega) (by omega)), if_neg (noob (by omega) (by omega)), nI_clamp (by omega), nI_clamp (by omega), h.row, e1, cbE_some, e2, cbE_some]
end CG
