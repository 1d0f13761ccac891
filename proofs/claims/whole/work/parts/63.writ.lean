/-! write, erase -/
theorem b255 (y : Int64) : (y &&& (255 : Int64)).toInt32 = y.toInt32 &&& (255 : Int32) := Int64.toInt32_and y 255
/-- byte i of what is written -/
def byW (x : Int64) (i : Nat) : Int32 := ((x >>> (((8 : Int32) * nI i).toInt64 &&& 63)).toInt32) &&& (255 : Int32)
def wrF (x : Int64) (b : Nat) : Nat → Nat → (Nat → Int32) → Nat → Int32
  | 0, _, A => A
  | j + 1, i, A => wrF x b j (i + 1) (upd A (b + i) (byW x i))
theorem wrF_s (x : Int64) (b j i : Nat) (A : Nat → Int32) : wrF x b (j + 1) i A = wrF x b j (i + 1) (upd A (b + i) (byW x i)) := rfl
theorem ap3_s (f : Nat) : sX5_append_l3 (f + 1) = sX5_append_b3 (sX5_append_l3 f) := rfl
theorem wr31_s (f : Nat) : sX9_write_l31 (f + 1) = sX9_write_b31 (sX9_write_l31 f) := rfl
section WR
variable {m : pMem} {b n : Nat}
theorem l_ap3 (h6 : m.1 6 1 = nI b) (hb : b + n ≤ 160) (x : Int64) : ∀ (j i f : Nat), i + j = n → j < f → ∀ A, sX5_append_l3 f x (nI n) (nI i) (up1 m 52 A) = some (nI (b + n), st1 (up1 m 52 (wrF x b j i A)) 6 1 (nI (b + n))) := by
  intro j
  induction j with
  | zero =>
    intro i f hij hf A
    obtain ⟨f, rfl⟩ := fuel_s (Nat.lt_of_le_of_lt (Nat.zero_le _) hf)
    have : i = n := by omega
    subst this
    rw [ap3_s]
    unfold sX5_append_b3
    rw [if_pos (nI_le (Nat.le_refl _) (by omega)), bnd_eq, show (up1 m 52 A).1 6 1 = m.1 6 1 from rfl, h6, nI_add, st1_at, if_pos rfl]
    rfl
  | succ j ih =>
    intro i f hij hf A
    obtain ⟨f, rfl⟩ := fuel_s (Nat.lt_of_le_of_lt (Nat.zero_le _) hf)
    rw [ap3_s]
    unfold sX5_append_b3
    rw [if_neg (nI_ge (by omega) (by omega)), show (up1 m 52 A).1 6 1 = m.1 6 1 from rfl, h6, nI_add, if_neg (noob (by omega) (by omega)), nI_clamp (by omega), bnd_eq, st_up, nI_1, wrF_s]
    exact ih (i + 1) f (by omega) (by omega) _
theorem l_wr31 (h9 : m.1 9 15 = nI b) (hb : b + n ≤ 160) (x : Int64) : ∀ (j i f : Nat), i + j = n → j < f → ∀ A, sX9_write_l31 f x (nI n) (nI i) (up1 m 76 A) = some (nI (b + n), st1 (up1 m 76 (wrF x b j i A)) 9 15 (nI (b + n))) := by
  intro j
  induction j with
  | zero =>
    intro i f hij hf A
    obtain ⟨f, rfl⟩ := fuel_s (Nat.lt_of_le_of_lt (Nat.zero_le _) hf)
    have : i = n := by omega
    subst this
    rw [wr31_s]
    unfold sX9_write_b31
    rw [if_pos (nI_le (Nat.le_refl _) (by omega)), bnd_eq, show (up1 m 76 A).1 9 15 = m.1 9 15 from rfl, h9, nI_add, st1_at, if_pos rfl]
    rfl
  | succ j ih =>
    intro i f hij hf A
    obtain ⟨f, rfl⟩ := fuel_s (Nat.lt_of_le_of_lt (Nat.zero_le _) hf)
    rw [wr31_s]
    unfold sX9_write_b31
    rw [if_neg (nI_ge (by omega) (by omega)), show (up1 m 76 A).1 9 15 = m.1 9 15 from rfl, h9, nI_add, if_neg (noob (by omega) (by omega)), nI_clamp (by omega), bnd_eq, st_up, nI_1, b255, wrF_s]
    exact ih (i + 1) f (by omega) (by omega) _
end WR
theorem q_write {m : pMem} (I : Inv m) (x : Int64) (a : Int32) : ∃ r m1 m2, sX8_write x a m = some (r, m1) ∧ sX9_write x a m1 = some (r, m2) ∧ Inv m2 := by
  have I0 := I
  obtain ⟨c, g, l, p, w, v, d, t, n, b, h, hT, hP, hG⟩ := I
  have hb := hT.ble
  unfold sX8_write sX9_write sX8_write_b11
  by_cases ha : inR a 1 8
  · obtain ⟨k, hk, rfl⟩ := inR_nat (n := 8) (by decide) (show inR a 0 8 from ⟨fun z => ha.1 (Int32.lt_trans z (by decide)), ha.2⟩)
    by_cases hz : b + k ≤ 160
    · have e1 := l_ap3 hT.b6 hz x k 0 5000 (by omega) (by omega) (m.1 52)
      rw [up_id] at e1
      have e1' : sX5_append x (nI k) m = some (nI (b + k), st1 (up1 m 52 (wrF x b k 0 (m.1 52))) 6 1 (nI (b + k))) := e1
      have h9' : (st1 (up1 m 52 (wrF x b k 0 (m.1 52))) 6 1 (nI (b + k))).1 9 15 = nI b := hT.b9
      have e2 := l_wr31 h9' hz x k 0 5000 (by omega) (by omega) (m.1 76)
      rw [show up1 (st1 (up1 m 52 (wrF x b k 0 (m.1 52))) 6 1 (nI (b + k))) 76 (m.1 76) = st1 (up1 m 52 (wrF x b k 0 (m.1 52))) 6 1 (nI (b + k)) from up_id _ 76] at e2
      refine ⟨nI (b + k), st1 (up1 m 52 (wrF x b k 0 (m.1 52))) 6 1 (nI (b + k)), st1 (up1 (st1 (up1 m 52 (wrF x b k 0 (m.1 52))) 6 1 (nI (b + k))) 76 (wrF x b k 0 (m.1 76))) 9 15 (nI (b + k)), ?_, ?_, ?_⟩
      · rw [if_neg ha.1, if_pos (Int32.not_lt.mp ha.2), hT.b6, nI_add, if_pos (show nI (b + k) ≤ 160 from nI_le (b := 160) hz (by omega)), e1', cbE_some]
      · rw [p_in, cbR_some, bI_t ha, if_pos n10, h9', nI_add, if_pos (show nI (b + k) ≤ 160 from nI_le (b := 160) hz (by omega))]
        exact e2
      · refine ⟨c, g, l, p, w, v, d, t, n, b + k, h.congr ⟨rfl, rfl, rfl, rfl, rfl, rfl, rfl, rfl, rfl, rfl, rfl, rfl, rfl, rfl, rfl, rfl, rfl, rfl, rfl, rfl, rfl, rfl, rfl, rfl, rfl, rfl, rfl, rfl, rfl, rfl, rfl, fun j hj => by simp only [up1_1, st1_1, mkM_1]; (repeat rw [if_neg (by omega)])⟩, ?_, hP.congr ⟨rfl, rfl, rfl, rfl, rfl, rfl, rfl, rfl, rfl, rfl, rfl, rfl, rfl, rfl, rfl, rfl, rfl, rfl, rfl, rfl, rfl, rfl, rfl, rfl, rfl, rfl, rfl, rfl, rfl, rfl, rfl, rfl, rfl, rfl, rfl, rfl⟩, hG.congr ⟨rfl, rfl, rfl, rfl, rfl, rfl, rfl, rfl, rfl, rfl, rfl, rfl, rfl, rfl, rfl, rfl, rfl, rfl, rfl, rfl, rfl, rfl, rfl, rfl, rfl, rfl, rfl⟩⟩
        exact ⟨rfl, rfl, hz, congrArg (wrF x b k 0) hT.byt, hT.rul, hT.r0, hT.r1, hT.r2, hT.r3, hT.r4⟩
    · refine ⟨-5, m, m, ?_, ?_, I0⟩
      · rw [if_neg ha.1, if_pos (Int32.not_lt.mp ha.2), hT.b6, nI_add, if_neg (show ¬ nI (b + k) ≤ 160 from nI_ge (b := b + k) (a := 160) (by omega) (by omega))]
      · rw [p_in, cbR_some, bI_t ha, if_pos n10, hT.b9, nI_add, if_neg (show ¬ nI (b + k) ≤ 160 from nI_ge (b := b + k) (a := 160) (by omega) (by omega))]
  · refine ⟨-3, m, m, ?_, ?_, I0⟩
    · by_cases z : a < 1
      · rw [if_pos z]
      · rw [if_neg z, if_neg (fun y => ha ⟨z, Int32.not_lt.mpr y⟩)]
    · rw [p_in, cbR_some, bI_f ha, if_neg nn0]
theorem q_erase {m : pMem} (I : Inv m) : ∃ r m1 m2, sX8_erase m = some (r, m1) ∧ sX9_erase m1 = some (r, m2) ∧ Inv m2 := by
  obtain ⟨c, g, l, p, w, v, d, t, n, b, h, hT, hP, hG⟩ := I
  refine ⟨nI b, st1 m 6 1 0, st1 (st1 m 6 1 0) 9 15 0, ?_, ?_, ?_⟩
  · unfold sX8_erase sX5_empty
    rw [bnd_eq, bnd_eq, cbE_some, hT.b6]
  · unfold sX9_erase
    rw [bnd_eq, bnd_eq, show (st1 m 6 1 0).1 9 15 = m.1 9 15 from rfl, hT.b9]
  · refine ⟨c, g, l, p, w, v, d, t, n, 0, h.congr ⟨rfl, rfl, rfl, rfl, rfl, rfl, rfl, rfl, rfl, rfl, rfl, rfl, rfl, rfl, rfl, rfl, rfl, rfl, rfl, rfl, rfl, rfl, rfl, rfl, rfl, rfl, rfl, rfl, rfl, rfl, rfl, fun j hj => by simp only [ st1_1, mkM_1]; (repeat rw [if_neg (by omega)])⟩, ?_, hP.congr ⟨rfl, rfl, rfl, rfl, rfl, rfl, rfl, rfl, rfl, rfl, rfl, rfl, rfl, rfl, rfl, rfl, rfl, rfl, rfl, rfl, rfl, rfl, rfl, rfl, rfl, rfl, rfl, rfl, rfl, rfl, rfl, rfl, rfl, rfl, rfl, rfl⟩, hG.congr ⟨rfl, rfl, rfl, rfl, rfl, rfl, rfl, rfl, rfl, rfl, rfl, rfl, rfl, rfl, rfl, rfl, rfl, rfl, rfl, rfl, rfl, rfl, rfl, rfl, rfl, rfl, rfl⟩⟩
    exact ⟨rfl, rfl, by omega, hT.byt, hT.rul, hT.r0, hT.r1, hT.r2, hT.r3, hT.r4⟩
