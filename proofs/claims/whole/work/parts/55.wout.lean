/-! words left out: sets -/
theorem nI_bt {n i : Nat} (hi : i < 32) : bt (nI n) i = n.testBit i := by
  show (BitVec.ofNat 32 n).getLsbD i = _
  rw [BitVec.getLsbD_ofNat]
  simp [hi]
theorem nI_hi {n i : Nat} (hn : n < 1024) (h : 10 ≤ i) (hi : i < 32) : bt (nI n) i = false := by
  rw [nI_bt hi]
  exact Nat.testBit_lt_two_pow (Nat.lt_of_lt_of_le hn (Nat.pow_le_pow_right (n := 2) (by omega) h))
def cntB (x : Int32) : Nat → Nat
  | 0 => 0
  | n + 1 => cntB x n + (if bt x n = true then 1 else 0)
theorem cntB_s (x : Int32) (n : Nat) : cntB x (n + 1) = cntB x n + (if bt x n = true then 1 else 0) := rfl
theorem cntB_le (x : Int32) : ∀ n, cntB x n ≤ n
  | 0 => Nat.le_refl _
  | n + 1 => by
    have := cntB_le x n
    rw [cntB_s]
    split <;> omega
theorem b10_cnt (x : Int32) : ∀ n, n ≤ 10 → b10 x n = nI (cntB x n)
  | 0, _ => rfl
  | n + 1, h => by
    rw [b10_s, cntB_s, b10_cnt x n (by omega), b_ask x n (by omega)]
    by_cases z : bt x n = true
    · rw [if_pos z, if_pos z, nI_1]
    · rw [if_neg z, if_neg z]
      exact nI_add _ 0
theorem cntB_and (x a : Int32) : ∀ n, n ≤ 32 → cntB (x &&& a) n ≤ cntB x n ∧ (cntB (x &&& a) n = cntB x n → ∀ i, i < n → bt x i = true → bt a i = true)
  | 0, _ => ⟨Nat.le_refl _, fun _ i hi => absurd hi (Nat.not_lt_zero i)⟩
  | n + 1, h => by
    obtain ⟨h1, h2⟩ := cntB_and x a n (by omega)
    rw [cntB_s, cntB_s, b_and]
    cases hx : bt x n
    · rw [Bool.false_and, if_neg (by decide), Nat.add_zero, Nat.add_zero]
      refine ⟨h1, fun e i hi hb => ?_⟩
      rcases Nat.lt_or_ge i n with z | z
      · exact h2 e i z hb
      · rw [show i = n by omega, hx] at hb
        exact absurd hb (by decide)
    · rw [Bool.true_and]
      cases ha : bt a n
      · rw [if_neg (by decide), if_pos rfl]
        exact ⟨by omega, fun e => by omega⟩
      · rw [if_pos rfl]
        refine ⟨by omega, fun e i hi hb => ?_⟩
        rcases Nat.lt_or_ge i n with z | z
        · exact h2 (by omega) i z hb
        · rw [show i = n by omega]; exact ha
/-- the best of the first n sets -/
def pcN (x : Nat) : Nat := cntB (nI x) 10
def bF (S : Nat → Bool) : Nat → Option Nat
  | 0 => none
  | n + 1 => match bF S n with
    | none => if S n = true then some n else none
    | some b => if pcN n < pcN b ∧ S n = true then some n else some b
theorem bF_s (S : Nat → Bool) (n : Nat) : bF S (n + 1) = match bF S n with
    | none => if S n = true then some n else none
    | some b => if pcN n < pcN b ∧ S n = true then some n else some b := rfl
def bFok (S : Nat → Bool) (n : Nat) : Option Nat → Prop
  | none => ∀ y, y < n → ¬ S y = true
  | some b => b < n ∧ S b = true ∧ ∀ y, y < n → S y = true → pcN b < pcN y ∨ (pcN b = pcN y ∧ b ≤ y)
theorem bF_ok (S : Nat → Bool) : ∀ n, bFok S n (bF S n)
  | 0 => fun y hy => absurd hy (Nat.not_lt_zero y)
  | n + 1 => by
    have ih := bF_ok S n
    rw [bF_s]
    cases e : bF S n with
    | none =>
      rw [e] at ih
      have ih : ∀ y, y < n → ¬ S y = true := ih
      by_cases z : S n = true
      · simp only [if_pos z]
        refine ⟨by omega, z, fun y hy hS => ?_⟩
        rcases Nat.lt_or_ge y n with q | q
        · exact absurd hS (ih y q)
        · exact Or.inr ⟨by rw [show y = n by omega], q⟩
      · simp only [if_neg z]
        intro y hy
        rcases Nat.lt_or_ge y n with q | q
        · exact ih y q
        · rw [show y = n by omega]; exact z
    | some b =>
      rw [e] at ih
      obtain ⟨h1, h2, h3⟩ : b < n ∧ S b = true ∧ ∀ y, y < n → S y = true → pcN b < pcN y ∨ (pcN b = pcN y ∧ b ≤ y) := ih
      by_cases z : pcN n < pcN b ∧ S n = true
      · simp only [if_pos z]
        refine ⟨by omega, z.2, fun y hy hS => ?_⟩
        rcases Nat.lt_or_ge y n with q | q
        · have := h3 y q hS
          omega
        · exact Or.inr ⟨by rw [show y = n by omega], q⟩
      · simp only [if_neg z]
        refine ⟨by omega, h2, fun y hy hS => ?_⟩
        rcases Nat.lt_or_ge y n with q | q
        · exact h3 y q hS
        · have hy' : y = n := by omega
          subst hy'
          have : ¬ pcN y < pcN b := fun w => z ⟨w, hS⟩
          omega
/-- sets of words about the pact are enough -/
theorem bF_same {S T : Nat → Bool} {A : Int32} {N M : Nat} (hM : M = 1024) (hN : N ≤ 1024) (hT : ∀ x, x < 1024 → (T x = true ↔ S x = true ∧ ∀ i, i < 32 → bt (nI x) i = true → bt A i = true)) (hS : ∀ x y, x < 1024 → y < 1024 → nI y = nI x &&& A → S x = S y) (hlt : ∀ x, x < 1024 → (∀ i, i < 32 → bt (nI x) i = true → bt A i = true) → x < N) : bF S N = bF T M := by
  have cut : ∀ x, x < 1024 → ∃ y, y < 1024 ∧ nI y = nI x &&& A := fun x hx => by
    obtain ⟨y, hy, ey⟩ := low10 (x := nI x &&& A) (fun i h1 h2 => by rw [b_and, nI_hi hx h1 h2, Bool.false_and])
    exact ⟨y, hy, ey.symm⟩
  have sub : ∀ x y, nI y = nI x &&& A → ∀ i, i < 32 → bt (nI y) i = true → bt A i = true := fun x y e i hi hb => by
    rw [e, b_and, Bool.and_eq_true] at hb
    exact hb.2
  have okS := bF_ok S N
  have okT := bF_ok T M
  cases eT : bF T M with
  | none =>
    rw [eT] at okT
    have okT : ∀ y, y < M → ¬ T y = true := okT
    cases eS : bF S N with
    | none => rfl
    | some b =>
      rw [eS] at okS
      obtain ⟨h1, h2, h3⟩ : b < N ∧ S b = true ∧ ∀ y, y < N → S y = true → pcN b < pcN y ∨ (pcN b = pcN y ∧ b ≤ y) := okS
      obtain ⟨y, hy, ey⟩ := cut b (by omega)
      exact absurd ((hT y hy).mpr ⟨by rw [← hS b y (by omega) hy ey]; exact h2, sub b y ey⟩) (okT y (by omega))
  | some a =>
    rw [eT] at okT
    obtain ⟨t1', t2, t3⟩ : a < M ∧ T a = true ∧ ∀ y, y < M → T y = true → pcN a < pcN y ∨ (pcN a = pcN y ∧ a ≤ y) := okT
    have t1 : a < 1024 := by omega
    obtain ⟨u1, u2⟩ := (hT a t1).mp t2
    have haN := hlt a t1 u2
    cases eS : bF S N with
    | none =>
      rw [eS] at okS
      exact absurd u1 ((show ∀ y, y < N → ¬ S y = true from okS) a haN)
    | some b =>
      rw [eS] at okS
      obtain ⟨h1, h2, h3⟩ : b < N ∧ S b = true ∧ ∀ y, y < N → S y = true → pcN b < pcN y ∨ (pcN b = pcN y ∧ b ≤ y) := okS
      obtain ⟨y, hy, ey⟩ := cut b (by omega)
      have hyN := hlt y hy (sub b y ey)
      have hSy : S y = true := by rw [← hS b y (by omega) hy ey]; exact h2
      obtain ⟨c1, c2⟩ := cntB_and (nI b) A 10 (by omega)
      rw [← ey] at c1 c2
      have c1' : pcN y ≤ pcN b := c1
      have e1 := h3 y hyN hSy
      have e2 : pcN y = pcN b := by omega
      have hb : ∀ i, i < 32 → bt (nI b) i = true → bt A i = true := fun i hi hbi => by
        rcases Nat.lt_or_ge i 10 with z | z
        · exact c2 e2 i z hbi
        · rw [nI_hi (show b < 1024 by omega) z hi] at hbi
          exact absurd hbi (by decide)
      have f1 := t3 b (by omega) ((hT b (by omega)).mpr ⟨h2, hb⟩)
      have f2 := h3 a haN u1
      rw [show b = a by omega]
