/-! the fewest words left out -/
/-- the first words about a pact -/
def abF (m : pMem) (P : Int32) : Nat → Int32
  | 0 => 0
  | n + 1 => if m.1 84 n = P then abF m P n ||| ((1 : Int32) <<< (nI n &&& 31)) else abF m P n
theorem abF_s (m : pMem) (P : Int32) (n : Nat) : abF m P (n + 1) = if m.1 84 n = P then abF m P n ||| ((1 : Int32) <<< (nI n &&& 31)) else abF m P n := rfl
theorem abF_bt (m : pMem) (P : Int32) : ∀ n, n ≤ 31 → ∀ i, i < 32 → (bt (abF m P n) i = true ↔ i < n ∧ m.1 84 i = P)
  | 0, _, i, _ => by
    rw [show abF m P 0 = 0 from rfl, b_0]
    exact ⟨fun z => absurd z (by decide), fun z => absurd z.1 (Nat.not_lt_zero i)⟩
  | n + 1, hn, i, hi => by
    have ih := abF_bt m P n (by omega) i hi
    rw [abF_s]
    by_cases z : m.1 84 n = P
    · rw [if_pos z, b_or, Bool.or_eq_true, ih, b_one n (by omega) hi, decide_eq_true_eq]
      constructor
      · rintro (⟨y1, y2⟩ | y)
        · exact ⟨by omega, y2⟩
        · exact ⟨by omega, by rw [y]; exact z⟩
      · rintro ⟨y1, y2⟩
        rcases Nat.lt_or_ge i n with q | q
        · exact Or.inl ⟨q, y2⟩
        · exact Or.inr (by omega)
    · rw [if_neg z, ih]
      constructor
      · rintro ⟨y1, y2⟩
        exact ⟨by omega, y2⟩
      · rintro ⟨y1, y2⟩
        rcases Nat.lt_or_ge i n with q | q
        · exact ⟨q, y2⟩
        · exact absurd (by rw [show n = i by omega]; exact y2) z
theorem fyC_congr {F G : Nat → Bool} {D : Nat → Int32} : ∀ {n : Nat}, (∀ i, i < n → F i = G i) → fyC F D n = fyC G D n
  | 0, _ => rfl
  | n + 1, h => by rw [fyC_s, fyC_s, fyC_congr (fun i hi => h i (by omega)), h n (by omega)]
section WO
variable {m : pMem} {c g l p w v b : Nat}
/-- two sets that leave out the same words about a pact -/
def sOut (m : pMem) (w : Nat) (P out x : Int32) : Prop := ∀ i, i < w → m.1 84 i = P → bt out i = bt x i
theorem PW_o {P out x : Int32} (s : sOut m w P out x) (q t d : Int32) {i : Nat} (hi : i < w) : PW m P q t d out i = PW m P q t d x i := by
  unfold PW
  refine decide_eq_decide.mpr ⟨fun ⟨a1, a2, a3, a4, a5⟩ => ⟨a1, a2, a3, a4, ?_⟩, fun ⟨a1, a2, a3, a4, a5⟩ => ⟨a1, a2, a3, a4, ?_⟩⟩
  · rw [← s i hi a1]; exact a5
  · rw [s i hi a1]; exact a5
theorem FY_o {P out x : Int32} (s : sOut m w P out x) (q : Int32) {i : Nat} (hi : i < w) : FY m P q out i = FY m P q x i := by
  unfold FY
  refine decide_eq_decide.mpr ⟨fun ⟨a1, a2, a3, a4, a5⟩ => ⟨a1, a2, a3, a4, ?_⟩, fun ⟨a1, a2, a3, a4, a5⟩ => ⟨a1, a2, a3, a4, ?_⟩⟩
  · rw [← s i hi a1]; exact a5
  · rw [s i hi a1]; exact a5
theorem wL_o {P out x : Int32} (s : sOut m w P out x) (Q : Nat) (d : Int32) : wL m w P Q d out ↔ wL m w P Q d x := by
  unfold wL wR
  rw [lat_congr (P := PW m P (nI Q) 0 d out) (Q := PW m P (nI Q) 0 d x) (fun i hi => PW_o s (nI Q) 0 d hi), lat_congr (P := PW m P (nI Q) 1 d out) (Q := PW m P (nI Q) 1 d x) (fun i hi => PW_o s (nI Q) 1 d hi), fyC_congr (F := FY m P (nI Q) out) (G := FY m P (nI Q) x) (fun i hi => FY_o s (nI Q) hi)]
theorem hands_o {P out x : Int32} (s : sOut m w P out x) (W : Nat → Int32) (q : Nat) (D : Int32) : hands m w W P q D out = hands m w W P q D x := by
  funext i
  unfold hands
  exact decide_eq_decide.mpr (and_congr Iff.rfl (or_congr Iff.rfl (and_congr Iff.rfl (wL_o s q D))))
theorem wF_o {i : Nat} {out x : Int32} (s : sOut m w (nI i) out x) : ∀ n, wF m w i out n = wF m w i x n
  | 0 => rfl
  | n + 1 => by
    rw [wF_s, wF_s, wF_o s n]
    congr 1
    refine bI_congr (and_congr Iff.rfl ?_)
    unfold bnB
    rw [hands_o s]
theorem wV_o {i : Nat} {out x : Int32} (s : sOut m w (nI i) out x) : wV m w i out = wV m w i x := by
  funext n
  unfold wV
  rw [wF_o s]
theorem trS_o {i : Nat} {out x : Int32} (s : sOut m w (nI i) out x) (W : Nat → Int32) (d : Int32) (C : Nat) : ∀ q, trS m w W i d out C q = trS m w W i d x C q
  | 0 => rfl
  | q + 1 => by
    rw [trS_s, trS_s, trS_o s W d C q]
    congr 1
    refine if_cg (and_congr Iff.rfl ?_)
    unfold bnB
    rw [hands_o s]
theorem bS_o {i : Nat} {out x : Int32} (s : sOut m w (nI i) out x) (d : Int32) : bS m c l w v i d out = bS m c l w v i d x := by
  unfold bS
  rw [wV_o s, trS_o s]
/-- bound, or not, as asked -/
def wS (m : pMem) (c l w v i q : Nat) (d is : Int32) (x : Nat) : Bool := decide (bI (bt (bS m c l w v i d (nI x)) q = true) = is)
def wT (m : pMem) (c l w v i q : Nat) (d is A : Int32) (x : Nat) : Bool := wS m c l w v i q d is x && decide (nI x &&& (A ^^^ (-1 : Int32)) = 0)
theorem sub_iff (x : Nat) (A : Int32) : nI x &&& (A ^^^ (-1 : Int32)) = 0 ↔ ∀ i, i < 32 → bt (nI x) i = true → bt A i = true := by
  constructor
  · intro h i hi hb
    have z : bt (nI x &&& (A ^^^ (-1 : Int32))) i = false := by rw [h, b_0]
    rw [b_and, hb, b_xor, b_m1 i hi] at z
    simpa using z
  · intro h
    apply b_ext
    intro i hi
    rw [b_and, b_xor, b_m1 i hi, b_0]
    cases hb : bt (nI x) i with
    | false => rfl
    | true => rw [h i hi hb]; rfl
theorem w_same (hP : IQ m c g l p w v) {i q : Nat} (d is : Int32) : bF (wS m c l w v i q d is) (2 ^ (min w 10)) = bF (wT m c l w v i q d is (abF m (nI i) (min w 10))) 1024 := by
  have hw := hP.wle
  have ab := abF_bt m (nI i) (min w 10) (by omega)
  refine bF_same (M := 1024) (A := abF m (nI i) (min w 10)) rfl (by
    have := Nat.pow_le_pow_right (n := 2) (by omega) (show min w 10 ≤ 10 by omega)
    omega) (fun x hx => ?_) (fun x y hx hy e => ?_) (fun x hx hs => ?_)
  · unfold wT
    rw [Bool.and_eq_true, decide_eq_true_eq, sub_iff]
  · unfold wS
    have s : sOut m w (nI i) (nI x) (nI y) := fun j hj hp => by
      rw [e, b_and]
      rcases Nat.lt_or_ge j 10 with z | z
      · rw [(ab j (by omega)).mpr ⟨by omega, hp⟩, Bool.and_true]
      · rw [nI_hi hx z (by omega), Bool.false_and]
    rw [bS_o s]
  · refine Nat.lt_pow_two_of_testBit _ (fun j hj => ?_)
    rcases Nat.lt_or_ge j 32 with z | z
    · rw [← nI_bt z]
      cases hb : bt (nI x) j with
      | false => rfl
      | true =>
        have := ((ab j z).mp (hs j z hb)).1
        omega
    · exact Nat.testBit_lt_two_pow (Nat.lt_of_lt_of_le hx (Nat.pow_le_pow_right (n := 2) (by omega) (show 10 ≤ j by omega)))
theorem ab4_s (f : Nat) : sX7_firstWordsAbout_l4 (f + 1) = sX7_firstWordsAbout_b4 (sX7_firstWordsAbout_l4 f) := rfl
theorem l_about (hP : IQ m c g l p w v) (P : Int32) : ∀ (j i f : Nat), i + j = min w 10 → j < f → sX7_firstWordsAbout_l4 f P (abF m P i) (nI i) m = some (abF m P (min w 10)) := by
  have hw := hP.wle
  intro j
  induction j with
  | zero =>
    intro i f hij hf
    obtain ⟨f, rfl⟩ := fuel_s (Nat.lt_of_le_of_lt (Nat.zero_le _) hf)
    have : i = min w 10 := by omega
    subst this
    rw [ab4_s]
    unfold sX7_firstWordsAbout_b4 sX7_firstWordsAbout_b40
    rw [hP.w8]
    by_cases z : nI w ≤ nI (min w 10)
    · rw [if_pos z]
    · rw [if_neg z, if_pos (show (10 : Int32) ≤ nI (min w 10) from nI_le (a := 10) (by
        rw [le_iff (by omega) (by omega)] at z
        omega) (by omega))]
  | succ j ih =>
    intro i f hij hf
    obtain ⟨f, rfl⟩ := fuel_s (Nat.lt_of_le_of_lt (Nat.zero_le _) hf)
    have e := ih (i + 1) f (by omega) (by omega)
    rw [abF_s] at e
    rw [ab4_s]
    unfold sX7_firstWordsAbout_b4 sX7_firstWordsAbout_b34
    rw [hP.w8, if_neg (nI_ge (by omega) (by omega)), if_neg (show ¬ (10 : Int32) ≤ nI i from nI_ge (b := 10) (by omega) (by omega)), if_neg (noob (by omega) (by omega)), nI_clamp (by omega), hP.wp, nI_1, bnd_eq]
    by_cases z : m.1 84 i = P
    · rw [if_neg (not_not_intro z)]
      rw [if_pos z] at e
      exact e
    · rw [if_pos z]
      rw [if_neg z] at e
      exact e
theorem o16_s (f : Nat) : sX3_fewestLeftOut_l16 (f + 1) = sX3_fewestLeftOut_b16 (sX3_fewestLeftOut_l16 f) := rfl
theorem o55_s (f : Nat) : sX9_without_l55 (f + 1) = sX9_without_b55 (sX9_without_l55 f) := rfl
theorem bc_cnt {x : Nat} (hx : x < 1024) : bc (nI x) = nI (pcN x) := by rw [bc_b10 x hx, b10_cnt _ 10 (by omega)]; rfl
theorem pc_le (x : Nat) : pcN x ≤ 10 := cntB_le _ 10
theorem bF_lt {S : Nat → Bool} {n b : Nat} (h : bF S n = some b) : b < n := by
  have := bF_ok S n
  rw [h] at this
  exact this.1
theorem l_few (h : IH m c g l) (hT : IT m b) (hP : IQ m c g l p w v) {i q d : Nat} (hi : i < p) (hq : q < l) (hd : d ≤ 999) (is A : Int32) : ∀ (j x f : Nat), x + j = 1024 → j < f → ∀ μ, fr m μ → μ.1 9 = m.1 9 → ∃ ν, sX3_fewestLeftOut_l16 f (nI i) (nI q) (nI d) is A (ixO (bF (wT m c l w v i q (nI d) is A) x)) (nI x) μ = some (ixO (bF (wT m c l w v i q (nI d) is A) 1024), ν) ∧ fr m ν ∧ ν.1 9 = m.1 9 := by
  have hl := h.lle
  intro j
  induction j with
  | zero =>
    intro x f hij hf μ F e0
    obtain ⟨f, rfl⟩ := fuel_s (Nat.lt_of_le_of_lt (Nat.zero_le _) hf)
    have : x = 1024 := by omega
    subst this
    refine ⟨μ, ?_, F, e0⟩
    rw [o16_s]
    unfold sX3_fewestLeftOut_b16
    rw [if_pos (show (1024 : Int32) ≤ nI 1024 by decide)]
  | succ j ih =>
    intro x f hij hf μ F e0
    obtain ⟨f, rfl⟩ := fuel_s (Nat.lt_of_le_of_lt (Nat.zero_le _) hf)
    have hx : x < 1024 := by omega
    have ih' := ih (x + 1) f (by omega) (by omega)
    rw [bF_s] at ih'
    rw [o16_s]
    unfold sX3_fewestLeftOut_b16 sX3_fewestLeftOut_b58 sX3_fewestLeftOut_b79
    rw [if_neg (show ¬ (1024 : Int32) ≤ nI x from nI_ge (b := 1024) (by omega) (by omega)), p_bc, cbR_some, p_bc, cbR_some, nI_1, bc_cnt hx]
    obtain ⟨μ1, e1, f1, s1⟩ := k_on h hT hP F hi hd (nI x)
    have e1' : μ1.1 9 = m.1 9 := by rw [s1 9 (by omega)]; exact e0
    rw [e1, cbE_some, p_isIn _ (by omega), cbR_some]
    by_cases a0 : nI x &&& (A ^^^ (-1 : Int32)) = 0
    · rw [if_pos a0]
      have tt : wT m c l w v i q (nI d) is A x = true ↔ bI (bt (bS m c l w v i (nI d) (nI x)) q = true) = is := by
        unfold wT wS
        rw [Bool.and_eq_true, decide_eq_true_eq, decide_eq_true_eq]
        exact ⟨fun z => z.1, fun z => ⟨z, a0⟩⟩
      cases hb : bF (wT m c l w v i q (nI d) is A) x with
      | none =>
        rw [hb] at ih'
        rw [if_pos (show ixO none < 0 by decide)]
        by_cases a1 : bI (bt (bS m c l w v i (nI d) (nI x)) q = true) = is
        · simp only [if_pos (tt.mpr a1)] at ih'
          rw [if_neg (not_not_intro a1)]
          exact ih' μ1 f1 e1'
        · simp only [if_neg (fun z => a1 (tt.mp z))] at ih'
          rw [if_pos a1]
          exact ih' μ1 f1 e1'
      | some y =>
        have hy := bF_lt hb
        rw [hb] at ih'
        rw [if_neg (show ¬ ixO (some y) < 0 from nI_pos (show y < 2 ^ 31 by omega)), show ixO (some y) = nI y from rfl, bc_cnt (show y < 1024 by omega)]
        have hpx := pc_le x
        have hpy := pc_le y
        by_cases a2 : pcN x < pcN y
        · rw [if_pos (show nI (pcN x) < nI (pcN y) from nI_lt a2 (by omega))]
          by_cases a1 : bI (bt (bS m c l w v i (nI d) (nI x)) q = true) = is
          · simp only [if_pos (show pcN x < pcN y ∧ wT m c l w v i q (nI d) is A x = true from ⟨a2, tt.mpr a1⟩)] at ih'
            rw [if_neg (not_not_intro a1)]
            exact ih' μ1 f1 e1'
          · simp only [if_neg (show ¬ (pcN x < pcN y ∧ wT m c l w v i q (nI d) is A x = true) from fun z => a1 (tt.mp z.2))] at ih'
            rw [if_pos a1]
            exact ih' μ1 f1 e1'
        · simp only [if_neg (show ¬ (pcN x < pcN y ∧ wT m c l w v i q (nI d) is A x = true) from fun z => a2 z.1)] at ih'
          rw [if_neg (show ¬ nI (pcN x) < nI (pcN y) from nI_nlt (by omega) (by omega))]
          exact ih' μ F e0
    · rw [if_neg a0]
      have nt : ¬ wT m c l w v i q (nI d) is A x = true := fun z => a0 (by
        unfold wT at z
        rw [Bool.and_eq_true, decide_eq_true_eq] at z
        exact z.2)
      cases hb : bF (wT m c l w v i q (nI d) is A) x with
      | none =>
        rw [hb] at ih'
        simp only [if_neg nt] at ih'
        exact ih' μ F e0
      | some y =>
        rw [hb] at ih'
        simp only [if_neg (show ¬ (pcN x < pcN y ∧ wT m c l w v i q (nI d) is A x = true) from fun z => nt z.2)] at ih'
        exact ih' μ F e0
theorem pw_sh : ∀ k, k ≤ 10 → (1 : Int32) <<< (nI k &&& 31) = nI (2 ^ k) := by decide +kernel
theorem l_wo9 (h : IH m c g l) (hP : IQ m c g l p w v) {i q d : Nat} (hi : i < p) (hq : q < l) (hd : d ≤ 999) (is : Int32) {k : Nat} (hk : k ≤ 10) : ∀ (j x f : Nat), x + j = 2 ^ k → j < f → ∀ μ, fr m μ → ∃ ν, sX9_without_l55 f (nI i) (nI q) (nI d) is (ixO (bF (wS m c l w v i q (nI d) is) x)) (nI k) (nI x) μ = some (ixO (bF (wS m c l w v i q (nI d) is) (2 ^ k)), ν) ∧ fr m ν ∧ ν.1 9 38 = 0 := by
  have hl := h.lle
  have h2k : 2 ^ k ≤ 1024 := (Nat.pow_le_pow_right (n := 2) (by omega) hk : 2 ^ k ≤ 2 ^ 10)
  intro j
  induction j with
  | zero =>
    intro x f hij hf μ F
    obtain ⟨f, rfl⟩ := fuel_s (Nat.lt_of_le_of_lt (Nat.zero_le _) hf)
    have : x = 2 ^ k := by omega
    subst this
    refine ⟨st1 μ 9 38 0, ?_, F.tr (fr.s9 μ 0 (by omega)), by rw [st1_at, if_pos rfl]⟩
    rw [o55_s]
    unfold sX9_without_b55
    rw [pw_sh k hk, if_pos (nI_le (Nat.le_refl _) (by omega)), bnd_eq]
  | succ j ih =>
    intro x f hij hf μ F
    obtain ⟨f, rfl⟩ := fuel_s (Nat.lt_of_le_of_lt (Nat.zero_le _) hf)
    have hx : x < 1024 := by omega
    have ih' := ih (x + 1) f (by omega) (by omega)
    rw [bF_s] at ih'
    obtain ⟨μ1, e1, f1, s1⟩ := k_of (μ := st1 μ 9 38 (nI x)) h hP (F.tr (fr.s9 μ _ (by omega))) hi hd (out := nI x) (by rw [st1_at, if_pos rfl])
    have tt : wS m c l w v i q (nI d) is x = true ↔ bI (bt (bS m c l w v i (nI d) (nI x)) q = true) = is := by
      unfold wS
      rw [decide_eq_true_eq]
    have chk : ∀ (y : Option Nat), sX9_without_b83 (sX9_without_l55 f) (nI i) (nI q) (nI d) is (ixO y) (nI k) (nI x) μ = sX9_without_l55 f (nI i) (nI q) (nI d) is (ixO (if wS m c l w v i q (nI d) is x = true then some x else y)) (nI k) (nI (x + 1)) μ1 := by
      intro y
      unfold sX9_without_b83 sX9_without_b108 sX9_without_b124 sX9_without_b126
      rw [bnd_eq, e1, cbE_some, b_ask _ q (by omega), nI_1]
      by_cases z : bt (bS m c l w v i (nI d) (nI x)) q = true
      · rw [bI_t z] at tt
        rw [if_pos z, if_neg (not_not_intro rfl)]
        by_cases a1 : (1 : Int32) = is
        · rw [if_neg (not_not_intro a1), if_pos (tt.mpr a1)]
          rfl
        · rw [if_pos a1, if_neg (fun u => a1 (tt.mp u))]
      · rw [bI_f z] at tt
        rw [if_neg z, if_pos (show ¬ (0 : Int32) = 1 by decide)]
        by_cases a1 : (0 : Int32) = is
        · rw [if_neg (not_not_intro a1), if_pos (tt.mpr a1)]
          rfl
        · rw [if_pos a1, if_neg (fun u => a1 (tt.mp u))]
    rw [o55_s]
    unfold sX9_without_b55
    rw [pw_sh k hk, if_neg (nI_ge (by omega) (by omega))]
    cases hb : bF (wS m c l w v i q (nI d) is) x with
    | none =>
      rw [hb] at ih'
      rw [if_pos (show ixO none = -1 from rfl), chk none]
      exact ih' μ1 f1
    | some y =>
      have hy := bF_lt hb
      rw [hb] at ih'
      have hpx := pc_le x
      have hpy := pc_le y
      rw [if_neg (show ¬ ixO (some y) = -1 from fun u => absurd (show nI y < 0 by rw [show nI y = -1 from u]; decide) (nI_pos (show y < 2 ^ 31 by omega))), p_bits, cbR_some, p_bits, cbR_some, show ixO (some y) = nI y from rfl, b10_cnt _ 10 (by omega), b10_cnt _ 10 (by omega), show cntB (nI x) 10 = pcN x from rfl, show cntB (nI y) 10 = pcN y from rfl]
      by_cases a2 : pcN x < pcN y
      · rw [if_neg (show ¬ nI (pcN y) ≤ nI (pcN x) from nI_ge a2 (by omega)), show nI y = ixO (some y) from rfl, chk (some y)]
        by_cases a1 : wS m c l w v i q (nI d) is x = true
        · simp only [if_pos (show pcN x < pcN y ∧ wS m c l w v i q (nI d) is x = true from ⟨a2, a1⟩)] at ih'
          rw [if_pos a1]
          exact ih' μ1 f1
        · simp only [if_neg (show ¬ (pcN x < pcN y ∧ wS m c l w v i q (nI d) is x = true) from fun z => a1 z.2)] at ih'
          rw [if_neg a1]
          exact ih' μ1 f1
      · simp only [if_neg (show ¬ (pcN x < pcN y ∧ wS m c l w v i q (nI d) is x = true) from fun z => a2 z.1)] at ih'
        unfold sX9_without_b126
        rw [if_pos (show nI (pcN y) ≤ nI (pcN x) from nI_le (by omega) (by omega)), nI_1]
        exact ih' μ F
end WO
theorem q_without {m : pMem} (I : Inv m) (a x y is : Int32) : ∃ r m1 m2, sX8_without a x y is m = some (r, m1) ∧ sX9_without a x y is m1 = some (r, m2) ∧ Inv m2 := by
  have I0 := I
  obtain ⟨c, g, l, p, w, v, d, t, n, b, h, hT, hP, hG⟩ := I
  have hp := hP.ple
  have hl := h.lle
  have hw := hP.wle
  have hQ := hP.toQ
  unfold sX8_without sX9_without sX8_without_b22 sX9_without_b16 sX9_without_b50
  by_cases ha : inN a p
  · obtain ⟨i, hi, rfl⟩ := (inN_iff (show p < 2 ^ 31 by omega)).mp ha
    by_cases hx : inN x l
    · obtain ⟨q, hq, rfl⟩ := (inN_iff (show l < 2 ^ 31 by omega)).mp hx
      by_cases hd : inR y 0 999
      · obtain ⟨k, hk, rfl⟩ := day_of hd
        obtain ⟨μ, e1, f1, s1⟩ := l_few h hT hQ hi hq hk is (abF m (nI i) (min w 10)) 1024 0 5000 (by omega) (by omega) m (fr.rf m) rfl
        obtain ⟨ν, e2, f2, s2⟩ := l_wo9 h hQ hi hq hk is (k := min w 10) (by omega) (2 ^ (min w 10)) 0 5000 (by omega) (by
          have := Nat.pow_le_pow_right (n := 2) (by omega) (show min w 10 ≤ 10 by omega)
          omega) μ f1
        rw [w_same hQ] at e2
        have ab : sX7_firstWordsAbout (nI i) m = some (abF m (nI i) (min w 10)) := l_about hQ (nI i) (min w 10) 0 5000 (by omega) (by omega)
        have e1' : sX3_fewestLeftOut (nI i) (nI q) (nI k) is m = some (ixO (bF (wT m c l w v i q (nI k) is (abF m (nI i) (min w 10))) 1024), μ) := by
          unfold sX3_fewestLeftOut
          rw [ab, cbR_some, bnd_eq]
          exact e1
        refine ⟨ixO (bF (wT m c l w v i q (nI k) is (abF m (nI i) (min w 10))) 1024), μ, ν, ?_, ?_, inv_fr I0 f2 s2⟩
        · rw [p_pact3 (nI i) m hP.p4, cbR_some, bI_t ha, if_neg n10, p_land2 (nI q) m h.l3, cbR_some, bI_t hx, if_pos n10, p_day8, cbR_some, bI_t hd, if_pos n10, e1', cbE_some]
        · rw [p_pact9 (show p < 2 ^ 31 by omega) (nI i) μ (f1.Q hQ).p9, cbR_some, bI_t ha, if_neg n10, p_land9 (show l < 2 ^ 31 by omega) (nI q) μ (f1.H h).l9, cbR_some, bI_t hx, if_pos n10, p_day9, cbR_some, bI_t hd, if_pos n10, bnd_eq, (f1.Q hQ).w9]
          by_cases z : (10 : Int32) ≤ nI w
          · have : 10 ≤ w := (le_iff (a := 10) (by omega) (by omega)).mp z
            rw [show min w 10 = 10 by omega] at e2
            rw [if_pos z, show min w 10 = 10 by omega]
            exact e2
          · have : ¬ 10 ≤ w := fun u => z ((le_iff (a := 10) (by omega) (by omega)).mpr u)
            rw [show min w 10 = w by omega] at e2
            rw [if_neg z, show min w 10 = w by omega]
            exact e2
      · refine ⟨-3, m, m, ?_, ?_, I0⟩
        · rw [p_pact3 (nI i) m hP.p4, cbR_some, bI_t ha, if_neg n10, p_land2 (nI q) m h.l3, cbR_some, bI_t hx, if_pos n10, p_day8, cbR_some, bI_f hd, if_neg nn0]
        · rw [p_pact9 (show p < 2 ^ 31 by omega) (nI i) m hP.p9, cbR_some, bI_t ha, if_neg n10, p_land9 (show l < 2 ^ 31 by omega) (nI q) m h.l9, cbR_some, bI_t hx, if_pos n10, p_day9, cbR_some, bI_f hd, if_neg nn0]
    · refine ⟨-2, m, m, ?_, ?_, I0⟩
      · rw [p_pact3 (nI i) m hP.p4, cbR_some, bI_t ha, if_neg n10, p_land2 x m h.l3, cbR_some, bI_f hx, if_neg nn0]
      · rw [p_pact9 (show p < 2 ^ 31 by omega) (nI i) m hP.p9, cbR_some, bI_t ha, if_neg n10, p_land9 (show l < 2 ^ 31 by omega) x m h.l9, cbR_some, bI_f hx, if_neg nn0]
  · refine ⟨-2, m, m, ?_, ?_, I0⟩
    · rw [p_pact3 a m hP.p4, cbR_some, bI_f ha, if_pos rfl]
    · rw [p_pact9 (show p < 2 ^ 31 by omega) a m hP.p9, cbR_some, bI_f ha, if_pos rfl]
