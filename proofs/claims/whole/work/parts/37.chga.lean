/-! the one side's change as a whole -/
def rowS (k : Int32) (a b l : Nat) (s : Int32) (R : Nat → Int32) : Nat → Int32 :=
  if k = 0 then mvR R a l s else if k = 1 then mvR (mvR R a l s) a (l + 1) (mvR R a l s a) else if k = 2 then mvR R b a (R b) else if k = 3 then mvR R a b s else R
def dChg8 (c l : Nat) (k u : Int32) (a b : Nat) (bb s : Int32) (m m' : pMem) : Prop :=
  m'.2 = m.2 ∧ (∀ q, q ≠ 3 → (q < 21 ∨ (28 < q ∧ q < 106)) → q ≠ 30 + (c + 1) → q ≠ 43 → m'.1 q = m.1 q) ∧ (∀ q, q ≠ 6 → q ≠ 12 → m'.1 3 q = m.1 3 q) ∧ m'.1 3 6 = nI (l + come k) ∧ m'.1 3 12 = nI (c + 1)
  ∧ m'.1 24 = upd (m.1 24) c k ∧ m'.1 25 = upd (m.1 25) c u ∧ m'.1 26 = upd (m.1 26) c (nI a) ∧ m'.1 27 = upd (m.1 27) c bb ∧ m'.1 28 = upd (m.1 28) c (nI l) ∧ m'.1 106 = upd (m.1 106) c s ∧ m'.1 107 = upd (m.1 107) c (m.1 (30 + c) a &&& (s ^^^ (-1 : Int32)))
  ∧ (∃ R, (∀ q, q < 10 → R q = m.1 (30 + c) q) ∧ m'.1 (30 + (c + 1)) = rowS k a b l s R)
  ∧ m'.1 43 (c + 1) = thS k (nI a) bb (nI l) (m.1 43 c) ∧ (∀ x, x ≠ c + 1 → m'.1 43 x = m.1 43 x)
  ∧ (∀ x, l ≤ x → x < l + come k → m'.1 21 x = nI a ∧ m'.1 22 x = u ∧ m'.1 23 x = -1) ∧ (∀ x, (x < l ∨ l + come k ≤ x) → m'.1 21 x = m.1 21 x ∧ m'.1 22 x = m.1 22 x) ∧ (∀ x, x < l → m'.1 23 x = if (k = 1 ∧ x = a) ∨ (k = 2 ∧ x = b) then nI c else m.1 23 x)
def cB8 (m : pMem) (c l : Nat) (k u : Int32) (a : Nat) (b s : Int32) : pMem := st1 (st1 (up1 (st1 (st1 (st1 (st1 (st1 (st1 (st1 m 24 c k) 25 c u) 26 c (nI a)) 27 c b) 28 c (nI l)) 106 c s) 107 c (m.1 (30 + c) a &&& (s ^^^ (-1 : Int32)))) (30 + (c + 1)) (va_cpy (m.1 (30 + c)) (m.1 (30 + (c + 1))) 0 0 10)) 43 (c + 1) (m.1 43 c)) 3 12 (nI (c + 1))
theorem up_ne (m : pMem) {k q : Nat} (f : Nat → Int32) (h : q ≠ k) : (up1 m k f).1 q = m.1 q := if_neg h
theorem up_eq (m : pMem) (k : Nat) (f : Nat → Int32) : (up1 m k f).1 k = f := if_pos rfl
theorem cB8_fr {m : pMem} {c l a : Nat} {k u b s : Int32} {q : Nat} (h3 : q ≠ 3) (h1 : q < 24 ∨ (28 < q ∧ q < 106)) (h2 : q ≠ 30 + (c + 1)) (h4 : q ≠ 43) : (cB8 m c l k u a b s).1 q = m.1 q := by
  unfold cB8
  rw [st_ne _ _ _ h3, st_ne _ _ _ h4, up_ne _ _ h2, st_ne _ _ _ (by omega), st_ne _ _ _ (by omega), st_ne _ _ _ (by omega), st_ne _ _ _ (by omega), st_ne _ _ _ (by omega), st_ne _ _ _ (by omega), st_ne _ _ _ (by omega)]
theorem th_1 {t : Int32} {a l : Nat} (ha : a < l) (hl : l + 1 < 10) : ((t ||| ((1 : Int32) <<< (nI l &&& 31))) ||| ((1 : Int32) <<< (nI (l + 1) &&& 31))) &&& (((1 : Int32) <<< (nI a &&& 31)) ^^^ (-1 : Int32)) = (t &&& (((1 : Int32) <<< (nI a &&& 31)) ^^^ (-1 : Int32))) ||| ((3 : Int32) <<< (nI l &&& 31)) := by
  apply b_ext
  intro i hi
  rw [b_and, b_or, b_or, b_not1 a (by omega) hi, b_one l (by omega) hi, b_one (l + 1) (by omega) hi, b_or, b_and, b_not1 a (by omega) hi, b_three l (by omega) hi]
  by_cases e1 : i = l
  · have : i ≠ a := by omega
    simp [e1, show l ≠ a by omega]
  · by_cases e2 : i = l + 1
    · simp [e2, show l + 1 ≠ a by omega]
    · simp [e1, e2]
theorem cB8_SM {m : pMem} {c l : Nat} (h6 : m.1 3 6 = nI l) (hc : c < 12) (k u : Int32) (a : Nat) (b s : Int32) : SM (cB8 m c l k u a b s) (cB8 m c l k u a b s) (c + 1) l (va_cpy (m.1 (30 + c)) (m.1 (30 + (c + 1))) 0 0 10) (upd (m.1 43) (c + 1) (m.1 43 c)) (m.1 21) (m.1 22) (m.1 23) := by
  refine ⟨rfl, fun q _ _ _ _ _ _ => rfl, fun q _ => rfl, ?_, ?_, ?_, ?_, ?_, ?_⟩
  · unfold cB8
    rw [st_at _ _ _ (by omega), st_ne _ _ _ (by omega), up_ne _ _ (by omega)]; exact h6
  · unfold cB8
    rw [st_ne _ _ _ (by omega), st_ne _ _ _ (by omega), up_eq]
  · unfold cB8
    rw [st_ne _ _ _ (by omega), st_fn, up_ne _ _ (by omega)]; rfl
  · exact cB8_fr (by omega) (by omega) (by omega) (by omega)
  · exact cB8_fr (by omega) (by omega) (by omega) (by omega)
  · exact cB8_fr (by omega) (by omega) (by omega) (by omega)
theorem q_add {m : pMem} {c l : Nat} (h12 : m.1 3 12 = nI c) (h6 : m.1 3 6 = nI l) (hc : c < 12) {k u : Int32} {a b : Nat} {bb s : Int32} (ha : a < l) (hl10 : l ≤ 10) (hl : l + come k ≤ 10) (hb : (k = 2 ∨ k = 3) → bb = nI b ∧ b < l ∧ b ≠ a) : ∃ m', sX2_addChange k u (nI a) bb s m = some (if come k = 0 then nI a else nI l, m') ∧ dChg8 c l k u a b bb s m m' := by
  have hS := cB8_SM h6 hc k u a bb s
  have g12 : (cB8 m c l k u a bb s).1 3 12 = nI (c + 1) := by unfold cB8; rw [st_eq]
  have g25 : (cB8 m c l k u a bb s).1 25 c = u := by
    unfold cB8
    rw [st_ne _ _ _ (by omega), st_ne _ _ _ (by omega), up_ne _ _ (by omega), st_ne _ _ _ (by omega), st_ne _ _ _ (by omega), st_ne _ _ _ (by omega), st_ne _ _ _ (by omega), st_ne _ _ _ (by omega), st_eq]
  have hR : ∀ q, q < 10 → va_cpy (m.1 (30 + c)) (m.1 (30 + (c + 1))) 0 0 10 q = m.1 (30 + c) q := by
    intro q hq
    show (if 0 ≤ q ∧ q < 0 + 10 then m.1 (30 + c) (0 + (q - 0)) else m.1 (30 + (c + 1)) q) = _
    rw [if_pos ⟨by omega, by omega⟩, show 0 + (q - 0) = q by omega]
  -- what follows of the pieces
  have out : ∀ {m' : pMem} {R T F G H : Nat → Int32}, SM (cB8 m c l k u a bb s) m' (c + 1) (l + come k) R T F G H → (R = rowS k a b l s (va_cpy (m.1 (30 + c)) (m.1 (30 + (c + 1))) 0 0 10)) → T (c + 1) = thS k (nI a) bb (nI l) (m.1 43 c) → (∀ x, x ≠ c + 1 → T x = m.1 43 x) → (∀ x, l ≤ x → x < l + come k → F x = nI a ∧ G x = u ∧ H x = -1) → (∀ x, (x < l ∨ l + come k ≤ x) → F x = m.1 21 x ∧ G x = m.1 22 x) → (∀ x, x < l → H x = if (k = 1 ∧ x = a) ∨ (k = 2 ∧ x = b) then nI c else m.1 23 x) → dChg8 c l k u a b bb s m m' := by
    intro m' R T F G H h e1 e2 e3 e4 e5 e6
    refine ⟨h.s2, fun q q1 q2 q3 q4 => ?_, fun q q1 q2 => ?_, h.len, ?_, ?_, ?_, ?_, ?_, ?_, ?_, ?_, ⟨_, hR, by rw [h.row, e1]⟩, by rw [h.thr, e2], fun x hx => by rw [h.thr, e3 x hx], fun x x1 x2 => by rw [h.par, h.cam, h.enb]; exact e4 x x1 x2, fun x x1 => by rw [h.par, h.cam]; exact e5 x x1, fun x x1 => by rw [h.enb]; exact e6 x x1⟩
    · rw [h.fr q q1 (by omega) (by omega) (by omega) q3 q4, cB8_fr q1 (by omega) q3 q4]
    · rw [h.o3 q q1]
      unfold cB8
      rw [st_at _ _ _ q2, st_ne _ _ _ (by omega), up_ne _ _ (by omega)]; rfl
    · rw [h.o3 12 (by omega), g12]
    all_goals
      rw [h.fr _ (by omega) (by omega) (by omega) (by omega) (by omega) (by omega)]
      unfold cB8
      rw [st_ne _ _ _ (by omega), st_ne _ _ _ (by omega), up_ne _ _ (by omega)]
      rfl
  have start : sX2_addChange k u (nI a) bb s m = (if ¬ k = 0 then sX2_addChange_b144 k (nI a) bb s (nI l) (cB8 m c l k u a bb s) else cbE (sX2_partOff (nI a) s (cB8 m c l k u a bb s)) fun _ m24 => sX2_addChange_b144 k (nI a) bb s (nI l) m24) := by
    unfold sX2_addChange
    rw [h12, bnd_eq, h6, bnd_eq, nI_1]
    simp only [if_neg (noob (i := c) (n := 12) (by omega) (by omega)), if_neg (noob (i := c) (n := 13) (by omega) (by omega)), if_neg (noob (i := c + 1) (n := 13) (by omega) (by omega)), if_neg (noob (i := a) (n := 10) (by omega) (by omega)), nI_clamp (show c < 2 ^ 31 by omega), nI_clamp (show a < 2 ^ 31 by omega), nI_clamp (show c + 1 < 2 ^ 31 by omega), bnd_eq]
    rw [if_neg (show ¬ ¬ ((0 : Int32).toNatClampNeg + (10 : Int32).toNatClampNeg ≤ 10 ∧ (0 : Int32).toNatClampNeg + (10 : Int32).toNatClampNeg ≤ 10) by decide)]
    rw [show (10 : Int32).toNatClampNeg = 10 from rfl, show (0 : Int32).toNatClampNeg = 0 from rfl]
    have y0 : (st1 (st1 (st1 (st1 (st1 (st1 m 24 c k) 25 c u) 26 c (nI a)) 27 c bb) 28 c (nI l)) 106 c s).1 (30 + c) = m.1 (30 + c) := by
      rw [st_ne _ _ _ (by omega), st_ne _ _ _ (by omega), st_ne _ _ _ (by omega), st_ne _ _ _ (by omega), st_ne _ _ _ (by omega), st_ne _ _ _ (by omega)]
    rw [y0]
    have y1 : ∀ X : Int32, (st1 (st1 (st1 (st1 (st1 (st1 (st1 m 24 c k) 25 c u) 26 c (nI a)) 27 c bb) 28 c (nI l)) 106 c s) 107 c X).1 (30 + c) = m.1 (30 + c) := by
      intro X
      rw [st_ne _ _ _ (by omega), st_ne _ _ _ (by omega), st_ne _ _ _ (by omega), st_ne _ _ _ (by omega), st_ne _ _ _ (by omega), st_ne _ _ _ (by omega), st_ne _ _ _ (by omega)]
    have y2 : ∀ X : Int32, (st1 (st1 (st1 (st1 (st1 (st1 (st1 m 24 c k) 25 c u) 26 c (nI a)) 27 c bb) 28 c (nI l)) 106 c s) 107 c X).1 (30 + (c + 1)) = m.1 (30 + (c + 1)) := by
      intro X
      rw [st_ne _ _ _ (by omega), st_ne _ _ _ (by omega), st_ne _ _ _ (by omega), st_ne _ _ _ (by omega), st_ne _ _ _ (by omega), st_ne _ _ _ (by omega), st_ne _ _ _ (by omega)]
    rw [y1, y2]
    have y3 : ∀ (Z : Int32) (X : Nat → Int32), (up1 (st1 (st1 (st1 (st1 (st1 (st1 (st1 m 24 c k) 25 c u) 26 c (nI a)) 27 c bb) 28 c (nI l)) 106 c s) 107 c Z) (30 + (c + 1)) X).1 43 c = m.1 43 c := by
      intro Z X
      rw [up_ne _ _ (by omega)]; rfl
    rw [y3]
    have y4 : ∀ (Z : Int32) (X : Nat → Int32) (Y : Int32), (st1 (up1 (st1 (st1 (st1 (st1 (st1 (st1 (st1 m 24 c k) 25 c u) 26 c (nI a)) 27 c bb) 28 c (nI l)) 106 c s) 107 c Z) (30 + (c + 1)) X) 43 (c + 1) Y).1 3 12 = nI c := by
      intro Z X Y
      rw [st_ne _ _ _ (by omega), up_ne _ _ (by omega)]; exact h12
    rw [y4, nI_1]
    rfl
  rw [start]
  by_cases k0 : k = 0
  · have cm : come k = 1 := by rw [k0]; rfl
    have n1 : ¬ k = 1 := by rw [k0]; decide
    have n2 : ¬ k = 2 := by rw [k0]; decide
    have n3 : ¬ k = 3 := by rw [k0]; decide
    obtain ⟨m1, e1, h1⟩ := c_part hS hc g12 (a := a) (by omega) (by omega) s
    rw [if_neg (not_not_intro k0), e1, cbE_some]
    unfold sX2_addChange_b144 sX2_addChange_b156 sX2_addChange_b168 sX2_addChange_b182 sX2_addChange_b191 sX2_addChange_b197
    rw [if_pos n1, if_pos n2, if_pos n3, if_pos k0]
    refine ⟨m1, by rw [if_neg (by omega)], out (by rw [cm]; exact h1) ?_ ?_ ?_ ?_ ?_ ?_⟩
    · unfold rowS; rw [if_pos k0]
    · unfold thS; rw [if_pos k0, upd_eq, upd_eq]
    · intro x hx; rw [upd_ne _ _ hx, upd_ne _ _ hx]
    · intro x x1 x2
      have : x = l := by omega
      subst this
      rw [upd_eq, upd_eq, upd_eq, g25]
      exact ⟨rfl, rfl, rfl⟩
    · intro x x1
      rw [upd_ne _ _ (by omega), upd_ne _ _ (by omega)]
      exact ⟨rfl, rfl⟩
    · intro x x1
      rw [upd_ne _ _ (by omega), if_neg (fun z => z.elim (fun y => n1 y.1) (fun y => n2 y.1))]
  · rw [if_pos k0]
    by_cases k1 : k = 1
    · have cm : come k = 2 := by rw [k1]; rfl
      have n2 : ¬ k = 2 := by rw [k1]; decide
      have n3 : ¬ k = 3 := by rw [k1]; decide
      obtain ⟨m1, e1, h1⟩ := c_fall hS hc g12 (a := a) (by omega) (by omega) s
      unfold sX2_addChange_b144
      rw [if_neg (not_not_intro k1), e1, cbE_some]
      unfold sX2_addChange_b156 sX2_addChange_b168 sX2_addChange_b182 sX2_addChange_b191 sX2_addChange_b197
      rw [if_pos n2, if_pos n3, if_neg k0, if_neg (not_not_intro k1)]
      refine ⟨m1, by rw [if_neg (by omega)], out (by rw [cm]; exact h1) ?_ ?_ ?_ ?_ ?_ ?_⟩
      · unfold rowS; rw [if_neg k0, if_pos k1]
      · unfold thS; rw [if_neg k0, if_pos k1, upd_eq, upd_eq, upd_eq, upd_eq, th_1 ha (by omega)]
      · intro x hx; rw [upd_ne _ _ hx, upd_ne _ _ hx, upd_ne _ _ hx, upd_ne _ _ hx]
      · intro x x1 x2
        rw [g25]
        by_cases e : x = l + 1
        · subst e
          rw [upd_eq, upd_eq, upd_ne _ _ (show l + 1 ≠ a by omega), upd_eq]
          exact ⟨rfl, rfl, rfl⟩
        · have : x = l := by omega
          subst this
          rw [upd_ne _ _ e, upd_eq, upd_ne _ _ e, upd_eq, upd_ne _ _ (show x ≠ a by omega), upd_ne _ _ e, upd_eq]
          exact ⟨rfl, rfl, rfl⟩
      · intro x x1
        rw [upd_ne _ _ (show x ≠ l + 1 by omega), upd_ne _ _ (show x ≠ l by omega), upd_ne _ _ (show x ≠ l + 1 by omega), upd_ne _ _ (show x ≠ l by omega)]
        exact ⟨rfl, rfl⟩
      · intro x x1
        by_cases e : x = a
        · subst e
          rw [upd_eq, if_pos (Or.inl ⟨k1, rfl⟩)]
        · rw [upd_ne _ _ e, upd_ne _ _ (show x ≠ l + 1 by omega), upd_ne _ _ (show x ≠ l by omega), if_neg (fun z => z.elim (fun y => e y.2) (fun y => n2 y.1))]
    · have cm : come k = 0 := by unfold come; rw [if_neg k0, if_neg k1]
      have hS' : SM (cB8 m c l k u a bb s) (cB8 m c l k u a bb s) (c + 1) (l + come k) (va_cpy (m.1 (30 + c)) (m.1 (30 + (c + 1))) 0 0 10) (upd (m.1 43) (c + 1) (m.1 43 c)) (m.1 21) (m.1 22) (m.1 23) := by rw [cm]; exact hS
      unfold sX2_addChange_b144
      rw [if_pos k1]
      by_cases k2 : k = 2
      · have n3 : ¬ k = 3 := by rw [k2]; decide
        obtain ⟨hb1, hb2, hb3⟩ := hb (Or.inl k2)
        subst hb1
        obtain ⟨m1, e1, h1⟩ := c_join hS' hc g12 (a := a) (b := b) (by omega) (by omega)
        unfold sX2_addChange_b156
        rw [if_neg (not_not_intro k2), e1, cbE_some]
        unfold sX2_addChange_b168 sX2_addChange_b182 sX2_addChange_b197
        rw [if_pos n3, if_neg k0, if_pos k1]
        refine ⟨m1, by rw [if_pos cm], out h1 ?_ ?_ ?_ ?_ (fun x _ => ⟨rfl, rfl⟩) ?_⟩
        · unfold rowS; rw [if_neg k0, if_neg k1, if_pos k2]
        · unfold thS; rw [if_neg k0, if_neg k1, if_pos k2, upd_eq, upd_eq]
        · intro x hx; rw [upd_ne _ _ hx, upd_ne _ _ hx]
        · intro x x1 x2; omega
        · intro x x1
          by_cases e : x = b
          · subst e
            rw [upd_eq, if_pos (Or.inr ⟨k2, rfl⟩)]
          · rw [upd_ne _ _ e, if_neg (fun z => z.elim (fun y => k1 y.1) (fun y => e y.2))]
      · unfold sX2_addChange_b156
        rw [if_pos k2]
        have T5 : (∀ x, x < l → m.1 23 x = if (k = 1 ∧ x = a) ∨ (k = 2 ∧ x = b) then nI c else m.1 23 x) := by
          intro x _
          rw [if_neg (fun z => z.elim (fun y => k1 y.1) (fun y => k2 y.1))]
        have T2 : upd (m.1 43) (c + 1) (m.1 43 c) (c + 1) = thS k (nI a) bb (nI l) (m.1 43 c) := by
          unfold thS
          rw [if_neg k0, if_neg k1, if_neg k2, upd_eq]
        by_cases k3 : k = 3
        · obtain ⟨hb1, hb2, hb3⟩ := hb (Or.inr k3)
          subst hb1
          obtain ⟨m1, e1, h1⟩ := c_move hS' hc g12 (a := a) (b := b) (by omega) (by omega) s
          unfold sX2_addChange_b168
          rw [if_neg (not_not_intro k3), e1, cbE_some]
          unfold sX2_addChange_b182 sX2_addChange_b197
          rw [if_neg k0, if_pos k1]
          refine ⟨m1, by rw [if_pos cm], out h1 ?_ T2 ?_ ?_ (fun x _ => ⟨rfl, rfl⟩) T5⟩
          · unfold rowS; rw [if_neg k0, if_neg k1, if_neg k2, if_pos k3]
          · intro x hx; rw [upd_ne _ _ hx]
          · intro x x1 x2; omega
        · unfold sX2_addChange_b168
          rw [if_pos k3]
          unfold sX2_addChange_b182 sX2_addChange_b197
          rw [if_neg k0, if_pos k1]
          refine ⟨_, by rw [if_pos cm], out hS' ?_ T2 ?_ ?_ (fun x _ => ⟨rfl, rfl⟩) T5⟩
          · unfold rowS; rw [if_neg k0, if_neg k1, if_neg k2, if_neg k3]
          · intro x hx; rw [upd_ne _ _ hx]
          · intro x x1 x2; omega
