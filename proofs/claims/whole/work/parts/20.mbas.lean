/-! numbers, bits, memories: what the mathematics rests on (the rows on bits began as kit/laws/BITS.to-paste) -/
def bt (x : Int32) (i : Nat) : Bool := x.toBitVec.getLsbD i
theorem b_ext {x y : Int32} (h : ∀ i, i < 32 → bt x i = bt y i) : x = y := Int32.toBitVec_inj.mp (BitVec.eq_of_getLsbD_eq (fun i hi => h i hi))
theorem b_or (x y : Int32) (i : Nat) : bt (x ||| y) i = (bt x i || bt y i) := by unfold bt; rw [Int32.toBitVec_or, BitVec.getLsbD_or]
theorem b_and (x y : Int32) (i : Nat) : bt (x &&& y) i = (bt x i && bt y i) := by unfold bt; rw [Int32.toBitVec_and, BitVec.getLsbD_and]
theorem b_xor (x y : Int32) (i : Nat) : bt (x ^^^ y) i = (bt x i ^^ bt y i) := by unfold bt; rw [Int32.toBitVec_xor, BitVec.getLsbD_xor]
theorem b_big {x : Int32} {i : Nat} (h : 32 ≤ i) : bt x i = false := BitVec.getLsbD_of_ge _ _ h
theorem b_m1 : ∀ i, i < 32 → bt (-1) i = true := by decide +kernel
theorem b_0 (i : Nat) : bt 0 i = false := BitVec.getLsbD_zero
theorem s_l : ∀ n, n < 32 → ((nI n &&& 31).toBitVec.smod 32).toNat = n := by decide +kernel
theorem b_shl (n : Nat) (hn : n < 32) (x : Int32) {i : Nat} (hi : i < 32) : bt (x <<< (nI n &&& 31)) i = (decide (n ≤ i) && bt x (i - n)) := by
  unfold bt
  rw [Int32.toBitVec_shiftLeft]
  show (x.toBitVec <<< ((nI n &&& 31).toBitVec.smod 32).toNat).getLsbD i = _
  rw [s_l n hn, BitVec.getLsbD_shiftLeft]
  rcases Nat.lt_or_ge i n with h | h
  · simp [h, Nat.not_le.mpr h]
  · simp [hi, h, Nat.not_lt.mpr h]
theorem b_sshr (n : Nat) (hn : n < 32) (x : Int32) {i : Nat} (hi : i < 32) : bt (x >>> (nI n &&& 31)) i = if n + i < 32 then bt x (n + i) else bt x 31 := by
  unfold bt
  rw [Int32.toBitVec_shiftRight]
  show (x.toBitVec.sshiftRight ((nI n &&& 31).toBitVec.smod 32).toNat).getLsbD i = _
  rw [s_l n hn, BitVec.getLsbD_sshiftRight, BitVec.msb_eq_getLsbD_last]
  simp [hi]
theorem b_1 : ∀ i, i < 32 → bt 1 i = decide (i = 0) := by decide +kernel
theorem b_3 : ∀ i, i < 32 → bt 3 i = decide (i < 2) := by decide +kernel
/-- one bit -/
theorem b_one (n : Nat) (hn : n < 32) {i : Nat} (hi : i < 32) : bt ((1 : Int32) <<< (nI n &&& 31)) i = decide (i = n) := by
  rw [b_shl n hn 1 hi]
  by_cases h : n ≤ i
  · rw [b_1 (i - n) (by omega)]
    by_cases e : i = n
    · subst e; simp
    · simp [e, h]; omega
  · simp [h]; omega
/-- a bit asked for -/
theorem b_ask (x : Int32) (n : Nat) (hn : n < 31) : ((x >>> (nI n &&& 31)) &&& (1 : Int32)) = if bt x n then 1 else 0 := by
  apply b_ext
  intro i hi
  rw [b_and, b_sshr n (by omega) x hi, b_1 i hi]
  by_cases h0 : i = 0
  · subst h0
    rw [if_pos (by omega)]
    cases h : bt x n <;> simp [h, b_0, b_1]
  · simp only [h0, decide_false, Bool.and_false]
    cases h : bt x n
    · simp [b_0]
    · simp [b_1 i hi, h0]
/-- numbers -/
theorem oob_nI {i n : Nat} (hi : i < 2 ^ 31) : oob (nI i) n ↔ n ≤ i := by
  unfold oob
  rw [nI_clamp hi]
  exact ⟨fun h => h.elim (fun q => absurd q (nI_pos hi)) id, Or.inr⟩
theorem noob {i n : Nat} (hi : i < 2 ^ 31) (h : i < n) : ¬ oob (nI i) n := fun q => absurd ((oob_nI hi).mp q) (Nat.not_le.mpr h)
theorem nI_inj {a b : Nat} (ha : a < 2 ^ 31) (hb : b < 2 ^ 31) (h : nI a = nI b) : a = b := (nI_eq ha hb).mp h
/-- what stands in a cell as a number -/
def nv (x : Int32) : Nat := x.toNatClampNeg
theorem nv_nI {n : Nat} (h : n < 2 ^ 31) : nv (nI n) = n := nI_clamp h
/-- a truth as an int -/
def bI (p : Prop) [Decidable p] : Int32 := if p then 1 else 0
theorem bI_t {p : Prop} [Decidable p] (h : p) : bI p = 1 := if_pos h
theorem bI_f {p : Prop} [Decidable p] (h : ¬ p) : bI p = 0 := if_neg h
theorem bI_0 {p : Prop} [Decidable p] : bI p = 0 ↔ ¬ p := by
  unfold bI
  by_cases h : p
  · rw [if_pos h]; exact ⟨fun q => absurd q (by decide), fun q => absurd h q⟩
  · rw [if_neg h]; exact ⟨fun _ => h, fun _ => rfl⟩
theorem bI_1 {p : Prop} [Decidable p] : bI p = 1 ↔ p := by
  unfold bI
  by_cases h : p
  · rw [if_pos h]; exact ⟨fun _ => h, fun _ => rfl⟩
  · rw [if_neg h]; exact ⟨fun q => absurd q (by decide), fun q => absurd q h⟩
theorem nar0 : vp_nar .boolean 0 = 0 := by decide
theorem nar1 : vp_nar .boolean 1 = 1 := by decide
theorem nar_bI {p : Prop} [Decidable p] : vp_nar .boolean (bI p) = bI p := by
  unfold bI
  by_cases h : p
  · rw [if_pos h]; exact nar1
  · rw [if_neg h]; exact nar0
theorem bI_congr {p q : Prop} [Decidable p] [Decidable q] (h : p ↔ q) : bI p = bI q := by
  unfold bI
  by_cases hp : p
  · rw [if_pos hp, if_pos (h.mp hp)]
  · rw [if_neg hp, if_neg (fun z => hp (h.mpr z))]
/-- reads behind writes -/
theorem st1_1 (m : pMem) (k j q : Nat) (v : Int32) : (st1 m k j v).1 q = if q = k then upd (m.1 k) j v else m.1 q := rfl
theorem st1_2 (m : pMem) (k j : Nat) (v : Int32) : (st1 m k j v).2 = m.2 := rfl
theorem st2_1 (m : pMem) (k j : Nat) (v : Int64) : (st2 m k j v).1 = m.1 := rfl
theorem st2_2 (m : pMem) (k j q : Nat) (v : Int64) : (st2 m k j v).2 q = if q = k then vp_updL (m.2 k) j v else m.2 q := rfl
theorem up1_1 (m : pMem) (k q : Nat) (f : Nat → Int32) : (up1 m k f).1 q = if q = k then f else m.1 q := rfl
theorem up1_2 (m : pMem) (k : Nat) (f : Nat → Int32) : (up1 m k f).2 = m.2 := rfl
theorem upd_eq (f : Nat → Int32) (k : Nat) (x : Int32) : upd f k x k = x := if_pos rfl
theorem upd_ne (f : Nat → Int32) {k j : Nat} (x : Int32) (h : j ≠ k) : upd f k x j = f j := if_neg h
theorem upd_at (f : Nat → Int32) (k j : Nat) (x : Int32) : upd f k x j = if j = k then x else f j := rfl
theorem cbR_some {β : Type} (r : Int32) (f : Int32 → Option β) : cbR (some r) f = f r := rfl
theorem cbE_some (r : Int32) (m : pMem) (f : Int32 → pMem → gO) : cbE (some (r, m)) f = f r m := rfl
theorem bnd_eq {α β : Type} (a : α) (f : α → β) : bnd a f = f a := rfl
theorem fixN_s {τ : Type} (bot : τ) (body : τ → τ) (n : Nat) : fixN bot body (n + 1) = body (fixN bot body n) := rfl
theorem i0 : (0 : Int32) = nI 0 := rfl
theorem i1 : (1 : Int32) = nI 1 := rfl
/-- comparisons of small numbers -/
theorem le_iff {a b : Nat} (ha : a < 2 ^ 31) (hb : b < 2 ^ 31) : nI a ≤ nI b ↔ a ≤ b := nI_leI ha hb
theorem lt_iff {a b : Nat} (ha : a < 2 ^ 31) (hb : b < 2 ^ 31) : nI a < nI b ↔ a < b := nI_ltI ha hb
/-- between two bounds -/
abbrev inR (a lo hi : Int32) : Prop := ¬ a < lo ∧ ¬ hi < a
theorem inR_nat {a : Int32} {n : Nat} (hn : n < 2 ^ 31) (h : inR a 0 (nI n)) : ∃ k, k ≤ n ∧ a = nI k := by
  obtain ⟨j, hj, rfl⟩ := nI_of h.1
  exact ⟨j, Nat.not_lt.mp fun q => h.2 (nI_lt q hj), rfl⟩
theorem inR_nI {k n : Nat} (hn : n < 2 ^ 31) (h : k ≤ n) : inR (nI k) 0 (nI n) := ⟨nI_pos (by omega), nI_nlt h hn⟩
theorem n10 : ¬ (1 : Int32) = 0 := by decide
theorem nn0 : ¬ ¬ (0 : Int32) = 0 := by decide
