/-! whether words hold a land to a pact -/
abbrev wR (m : pMem) (w : Nat) (p q d out t : Int32) : Int32 := resL (m.1 88) (lat (PW m p q t d out) (m.1 86) w)
abbrev wL (m : pMem) (w : Nat) (p : Int32) (Q : Nat) (d out : Int32) : Prop :=
  (m.1 78 0 = 0 ∧ ¬ wR m w p (nI Q) d out 0 = 0) ∨ (¬ m.1 78 0 = 0 ∧ wR m w p (nI Q) d out 0 = 1 ∧ ¬ m.1 78 2 < fyC (FY m p (nI Q) out) (m.1 86) w - m.1 67 Q ∧ (wR m w p (nI Q) d out 1 = 1 ∨ (wR m w p (nI Q) d out 1 = -1 ∧ m.1 78 1 = 1)))
/-- the class's reading of words (the tail of isHeld) -/
def hldW (a1 a2 a3 a4 : Int32) (m : pMem) : (Option Int32) :=
  cbR (sX7_latest a1 a2 0 a3 a4 m) fun r9 =>
  if ¬ (m.1 53 ((0 : Int32).toNatClampNeg)) = 0 then
    if r9 = 1 then
      cbR (sX7_firstYes a1 a2 a4 m) fun r13 =>
      if oob a2 10 then none else
      if (r13 - (m.1 22 a2.toNatClampNeg)) ≤ (m.1 53 ((2 : Int32).toNatClampNeg)) then
        cbR (sX7_latest a1 a2 1 a3 a4 m) fun r17 =>
        if r17 = 1 then
          sX3_isHeld_b157  m
        else
          if ¬ r17 = (-1) then
            sX3_isHeld_b161  m
          else
            if ¬ (m.1 53 ((1 : Int32).toNatClampNeg)) = 1 then
              sX3_isHeld_b161  m
            else
              sX3_isHeld_b157  m
      else
        some (0 : Int32)
    else
      some (0 : Int32)
  else
    if r9 = 0 then
      sX3_isHeld_b73  0 m
    else
      sX3_isHeld_b73  1 m
theorem isHeld_eq (a1 a2 a3 a4 : Int32) (m : pMem) : sX3_isHeld a1 a2 a3 a4 m = if oob a1 12 then none else if a2 = (m.1 45 a1.toNatClampNeg) then sX3_isHeld_b21 m else cbR (sX8_isIn (m.1 4 11) a2 m) fun r3 => if r3 = 0 then (cbR (sX8_isIn (m.1 4 10) a2 m) fun r6 => if ¬ r6 = 0 then hldW a1 a2 a3 a4 m else some (0 : Int32)) else sX3_isHeld_b21 m := rfl
section WL
variable {m : pMem} {w : Nat}
theorem p_held8 (hw : w ≤ 24) (h8 : m.1 8 5 = nI w) (e1 : m.1 59 = m.1 84) (e2 : m.1 60 = m.1 85) (e3 : m.1 61 = m.1 87) (e4 : m.1 63 = m.1 86) (e5 : m.1 62 = m.1 88) (r : m.1 53 = m.1 78) (cm : m.1 22 = m.1 67) (p : Int32) {Q : Nat} (hQ : Q < 10) (d out : Int32) : hldW p (nI Q) d out m = some (bI (wL m w p Q d out)) := by
  unfold hldW sX3_isHeld_b157 sX3_isHeld_b73 sX3_isHeld_b161 sX3_isHeld_b162
  rw [p_latest7 hw h8 e1 e2 e3 e4 e5, cbR_some, r, show (0 : Int32).toNatClampNeg = 0 from rfl]
  by_cases a0 : m.1 78 0 = 0
  · rw [if_neg (not_not_intro a0)]
    by_cases a1 : wR m w p (nI Q) d out 0 = 0
    · rw [if_pos a1, nar0, bI_f (fun z => z.elim (fun y => y.2 a1) (fun y => y.1 a0))]
    · rw [if_neg a1, nar1, bI_t (Or.inl ⟨a0, a1⟩)]
  · rw [if_pos a0]
    by_cases a1 : wR m w p (nI Q) d out 0 = 1
    · rw [if_pos a1, p_yes7 hw h8 e1 e2 e3 e4 e5, cbR_some, if_neg (noob (by omega) (by omega)), nI_clamp (by omega), cm, show (2 : Int32).toNatClampNeg = 2 from rfl]
      by_cases a2 : m.1 78 2 < fyC (FY m p (nI Q) out) (m.1 86) w - m.1 67 Q
      · rw [if_neg (Int32.not_le.mpr a2), bI_f (fun z => z.elim (fun y => a0 y.1) (fun y => y.2.2.1 a2))]
      · rw [if_pos (Int32.not_lt.mp a2), p_latest7 hw h8 e1 e2 e3 e4 e5, cbR_some, nar0, nar1, show (1 : Int32).toNatClampNeg = 1 from rfl]
        by_cases a3 : wR m w p (nI Q) d out 1 = 1
        · rw [if_pos a3, bI_t (Or.inr ⟨a0, a1, a2, Or.inl a3⟩)]
        · rw [if_neg a3]
          by_cases a4 : wR m w p (nI Q) d out 1 = -1
          · rw [if_neg (not_not_intro a4)]
            by_cases a5 : m.1 78 1 = 1
            · rw [if_neg (not_not_intro a5), bI_t (Or.inr ⟨a0, a1, a2, Or.inr ⟨a4, a5⟩⟩)]
            · rw [if_pos a5, bI_f (fun z => z.elim (fun y => a0 y.1) (fun y => y.2.2.2.elim a3 (fun x => a5 x.2)))]
          · rw [if_pos a4, bI_f (fun z => z.elim (fun y => a0 y.1) (fun y => y.2.2.2.elim a3 (fun x => a4 x.1)))]
    · rw [if_neg a1, bI_f (fun z => z.elim (fun y => a0 y.1) (fun y => a1 y.2.1))]
theorem p_held9 (hw : w ≤ 24) (h9 : m.1 9 32 = nI w) {out : Int32} (ho : m.1 9 38 = out) (p : Int32) {Q : Nat} (hQ : Q < 10) {d : Int32} (hd : d < 1000) (hD : ∀ i, i < w → ¬ m.1 86 i < 0) : sX9_doWordsLet p (nI Q) d m = some (bI (wL m w p Q d out)) := by
  unfold sX9_doWordsLet sX9_doWordsLet_b91 sX9_doWordsLet_b29 sX9_doWordsLet_b95 sX9_doWordsLet_b96
  rw [p_latest9 hw h9 ho, cbR_some, show (0 : Int32).toNatClampNeg = 0 from rfl]
  by_cases a0 : m.1 78 0 = 0
  · rw [if_neg (not_not_intro a0)]
    by_cases a1 : wR m w p (nI Q) d out 0 = 0
    · rw [if_pos a1, nar0, bI_f (fun z => z.elim (fun y => y.2 a1) (fun y => y.1 a0))]
    · rw [if_neg a1, nar1, bI_t (Or.inl ⟨a0, a1⟩)]
  · rw [if_pos a0, p_latest9 hw h9 ho, cbR_some, nar0, nar1]
    by_cases a1 : wR m w p (nI Q) d out 0 = 1
    · rw [if_neg (not_not_intro a1), p_yes9 hw h9 ho, cbR_some, if_neg (noob (by omega) (by omega)), nI_clamp (by omega), fy_eq hd hD a1, show (2 : Int32).toNatClampNeg = 2 from rfl, show (1 : Int32).toNatClampNeg = 1 from rfl]
      by_cases a2 : m.1 78 2 < fyC (FY m p (nI Q) out) (m.1 86) w - m.1 67 Q
      · rw [if_pos a2, bI_f (fun z => z.elim (fun y => a0 y.1) (fun y => y.2.2.1 a2))]
      · rw [if_neg a2]
        by_cases a3 : wR m w p (nI Q) d out 1 = 1
        · rw [if_pos a3, bI_t (Or.inr ⟨a0, a1, a2, Or.inl a3⟩)]
        · rw [if_neg a3]
          by_cases a4 : wR m w p (nI Q) d out 1 = -1
          · rw [if_neg (not_not_intro a4)]
            by_cases a5 : m.1 78 1 = 1
            · rw [if_neg (not_not_intro a5), bI_t (Or.inr ⟨a0, a1, a2, Or.inr ⟨a4, a5⟩⟩)]
            · rw [if_pos a5, bI_f (fun z => z.elim (fun y => a0 y.1) (fun y => y.2.2.2.elim a3 (fun x => a5 x.2)))]
          · rw [if_pos a4, bI_f (fun z => z.elim (fun y => a0 y.1) (fun y => y.2.2.2.elim a3 (fun x => a4 x.1)))]
    · rw [if_pos a1, bI_f (fun z => z.elim (fun y => a0 y.1) (fun y => a1 y.2.1))]
end WL
