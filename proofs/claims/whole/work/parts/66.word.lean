/-! words of the rules -/
def wdF (T : Nat → Int32) (s w : Nat) : Nat → Bool
  | 0 => true
  | i + 1 => wdF T s w i && decide (T (s + i) = sChr w i)
theorem wdF_s (T : Nat → Int32) (s w i : Nat) : wdF T s w (i + 1) = (wdF T s w i && decide (T (s + i) = sChr w i)) := rfl
theorem wdF_up {T : Nat → Int32} {s w i : Nat} : ∀ {n : Nat}, i ≤ n → wdF T s w n = true → wdF T s w i = true
  | 0, h, hn => by rw [show i = 0 by omega]; rfl
  | n + 1, h, hn => by
    rcases Nat.lt_or_ge n i with z | z
    · rw [show i = n + 1 by omega]; exact hn
    · rw [wdF_s, Bool.and_eq_true] at hn
      exact wdF_up z hn.1
theorem wdF_iff {T : Nat → Int32} {s w : Nat} : ∀ {n : Nat}, wdF T s w n = true ↔ ∀ i, i < n → T (s + i) = sChr w i
  | 0 => ⟨fun _ i hi => absurd hi (Nat.not_lt_zero i), fun _ => rfl⟩
  | n + 1 => by
    rw [wdF_s, Bool.and_eq_true, wdF_iff, decide_eq_true_eq]
    constructor
    · rintro ⟨h1, h2⟩ i hi
      rcases Nat.lt_or_ge i n with z | z
      · exact h1 i z
      · rw [show i = n by omega]; exact h2
    · intro h
      exact ⟨fun i hi => h i (by omega), h n (by omega)⟩
/-- a token is a word -/
abbrev wdB (T : Nat → Int32) (s e w : Nat) : Prop := e - s = gSl.getD w 0 ∧ wdF T s w (gSl.getD w 0) = true
def WC : List Nat := [94310429, 1834205, 7496615453, 393, 18379, 335207579, 10256063, 4350799, 12532058, 3007164, 11716, 275656909, 6570631, 50801]
theorem w_len : ∀ w, w < 14 → 1 ≤ gSl.getD w 0 ∧ gSl.getD w 0 ≤ 7 := by decide +kernel
theorem w_let : ∀ w, w < 14 → ∀ i, i < gSl.getD w 0 → isLb (sChr w i) = true := by decide +kernel
theorem w_code : ∀ w, w < 14 → codeN (sChr w) 0 (gSl.getD w 0) = WC.getD w 0 := by decide +kernel
theorem w_pos : ∀ w, w < 14 → 1 ≤ WC.getD w 0 ∧ WC.getD w 0 < 2 ^ 40 := by decide +kernel
theorem codeN_inj {T U : Nat → Int32} {s u : Nat} : ∀ n k, (∀ i, i < n → isLb (T (s + i)) = true) → (∀ i, i < k → isLb (U (u + i)) = true) → codeN T s n = codeN U u k → n = k ∧ ∀ i, i < n → T (s + i) = U (u + i)
  | 0, 0, _, _, _ => ⟨rfl, fun i hi => absurd hi (Nat.not_lt_zero i)⟩
  | 0, k + 1, _, h2, h => by
    obtain ⟨y, y1, y2, ey⟩ := isLb_n (h2 k (by omega))
    rw [codeN_s, ey, nv_nI (by omega)] at h
    have h : 0 = 27 * codeN U u k + (y - 96) := h
    omega
  | n + 1, 0, h1, _, h => by
    obtain ⟨x, x1, x2, ex⟩ := isLb_n (h1 n (by omega))
    rw [codeN_s, ex, nv_nI (by omega)] at h
    have h : 27 * codeN T s n + (x - 96) = 0 := h
    omega
  | n + 1, k + 1, h1, h2, h => by
    obtain ⟨x, x1, x2, ex⟩ := isLb_n (h1 n (by omega))
    obtain ⟨y, y1, y2, ey⟩ := isLb_n (h2 k (by omega))
    rw [codeN_s, codeN_s, ex, ey, nv_nI (by omega), nv_nI (by omega)] at h
    obtain ⟨e1, e2⟩ := codeN_inj n k (fun i hi => h1 i (by omega)) (fun i hi => h2 i (by omega)) (by omega)
    refine ⟨by omega, fun i hi => ?_⟩
    rcases Nat.lt_or_ge i n with z | z
    · exact e2 i z
    · rw [show i = n by omega, ex, show u + n = u + k by omega, ey]
      congr 1
      omega
theorem codeN_eq {T U : Nat → Int32} {s u : Nat} : ∀ n, (∀ i, i < n → T (s + i) = U (u + i)) → codeN T s n = codeN U u n
  | 0, _ => rfl
  | n + 1, h => by rw [codeN_s, codeN_s, codeN_eq n (fun i hi => h i (by omega)), h n (by omega)]
theorem codeN_lt {T : Nat → Int32} {s : Nat} : ∀ n, (∀ i, i < n → isLb (T (s + i)) = true) → codeN T s n < 27 ^ n
  | 0, _ => by show 0 < 1; omega
  | n + 1, h => by
    obtain ⟨x, x1, x2, ex⟩ := isLb_n (h n (by omega))
    have := codeN_lt n (fun i hi => h i (by omega))
    rw [codeN_s, ex, nv_nI (by omega), Nat.pow_succ]
    omega
theorem lN_int {a : Nat} (h : a < 2 ^ 60) : (lN a).toInt = (a : Int) := Int64.toInt_ofNat_of_lt (by omega)
section WD
variable {b e w : Nat} {T : Nat → Int32}
theorem word_iff (he : e ≤ b) (hw : w < 14) : tcode T b e = lN (WC.getD w 0) ↔ wdB T (tkS T b e) (tkE T b e) w := by
  have rS := tkS_r (T := T) he
  have rL := tkL_r (T := T) he
  have rD := tkD_r (T := T) he
  obtain ⟨c1, c2⟩ := w_pos w hw
  obtain ⟨l1, l2⟩ := w_len w hw
  have hint := lN_int (show WC.getD w 0 < 2 ^ 60 by omega)
  have neg : ∀ t : Int64, t.toInt < 0 → ¬ t = lN (WC.getD w 0) := fun t ht y => by
    rw [y, hint] at ht
    omega
  constructor
  · intro h
    unfold tcode at h
    by_cases a0 : tkS T b e = b
    · rw [if_pos a0] at h
      exact absurd h (neg _ (by decide))
    · rw [if_neg a0] at h
      by_cases a1 : isLb (T (tkS T b e)) = true
      · rw [if_pos a1] at h
        by_cases a2 : tkL T b e - tkS T b e ≤ 9
        · rw [if_pos a2] at h
          have hL : ∀ i, i < tkL T b e - tkS T b e → isLb (T (tkS T b e + i)) = true := fun i hi => spn_all isLb T (b - tkS T b e) (tkS T b e) _ (by omega) (show _ < tkL T b e by omega)
          have hlt := codeN_lt _ hL
          have h27 : 27 ^ (tkL T b e - tkS T b e) ≤ 27 ^ 9 := Nat.pow_le_pow_right (by omega) a2
          have hi := congrArg Int64.toInt h
          rw [hint, lN_int (by omega)] at hi
          have hc : codeN T (tkS T b e) (tkL T b e - tkS T b e) = codeN (sChr w) 0 (gSl.getD w 0) := by
            rw [w_code w hw]
            omega
          obtain ⟨e1, e2⟩ := codeN_inj _ _ hL (fun i hi => by rw [Nat.zero_add]; exact w_let w hw i hi) hc
          have hE : tkE T b e = tkL T b e := by
            unfold tkE
            rw [if_pos (by omega)]
          rw [hE]
          refine ⟨e1, wdF_iff.mpr (fun i hi => ?_)⟩
          have := e2 i (by omega)
          rw [Nat.zero_add] at this
          exact this
        · rw [if_neg a2] at h
          exact absurd h (neg _ (by decide))
      · rw [if_neg a1] at h
        by_cases a2 : isDb (T (tkS T b e)) = true
        · rw [if_pos a2] at h
          by_cases a3 : tkD T b e - tkS T b e ≤ 3
          · rw [if_pos a3] at h
            exact absurd h (neg _ (by decide))
          · rw [if_neg a3] at h
            exact absurd h (neg _ (by decide))
        · rw [if_neg a2] at h
          by_cases a3 : T (tkS T b e) = 59
          · rw [if_pos a3] at h
            exact absurd h (neg _ (by decide))
          · rw [if_neg a3] at h
            exact absurd h (neg _ (by decide))
  · rintro ⟨h1, h2⟩
    have h2 := wdF_iff.mp h2
    have hE := tkE_r (T := T) he
    have h0 := h2 0 (by omega)
    rw [Nat.add_zero] at h0
    have a1 : isLb (T (tkS T b e)) = true := by rw [h0]; exact w_let w hw 0 (by omega)
    have a0 : tkS T b e < b := by omega
    have hp : tkS T b e < tkL T b e := spn_pos a0 a1
    have hEL : tkE T b e = tkL T b e := by
      unfold tkE
      rw [if_pos hp]
    unfold tcode
    rw [if_neg (by omega), if_pos a1, if_pos (by omega), ← w_code w hw, ← hEL, h1]
    congr 1
    exact codeN_eq _ (fun i hi => by rw [Nat.zero_add]; exact h2 i hi)
/-- end of the text, a line's end, a number -/
theorem end_iff : tcode T b e = -2 ↔ tkS T b e = b := by
  unfold tcode
  constructor
  · intro h
    by_cases a0 : tkS T b e = b
    · exact a0
    · rw [if_neg a0] at h
      by_cases a1 : isLb (T (tkS T b e)) = true
      · rw [if_pos a1] at h
        by_cases a2 : tkL T b e - tkS T b e ≤ 9
        · rw [if_pos a2] at h
          have hL : ∀ i, i < tkL T b e - tkS T b e → isLb (T (tkS T b e + i)) = true := fun i hi => spn_all isLb T (b - tkS T b e) (tkS T b e) _ (by omega) (show _ < tkL T b e by omega)
          have hlt := codeN_lt _ hL
          have h27 : 27 ^ (tkL T b e - tkS T b e) ≤ 27 ^ 9 := Nat.pow_le_pow_right (by omega) a2
          have hi := congrArg Int64.toInt h
          rw [lN_int (by omega), show (-2 : Int64).toInt = -2 by decide] at hi
          omega
        · rw [if_neg a2] at h
          exact absurd h (by decide)
      · rw [if_neg a1] at h
        by_cases a2 : isDb (T (tkS T b e)) = true
        · rw [if_pos a2] at h
          by_cases a3 : tkD T b e - tkS T b e ≤ 3
          · rw [if_pos a3] at h
            exact absurd h (by decide)
          · rw [if_neg a3] at h
            exact absurd h (by decide)
        · rw [if_neg a2] at h
          by_cases a3 : T (tkS T b e) = 59
          · rw [if_pos a3] at h
            exact absurd h (by decide)
          · rw [if_neg a3] at h
            exact absurd h (by decide)
  · intro h
    rw [if_pos h]
theorem semi_iff : tcode T b e = -3 ↔ ¬ tkS T b e = b ∧ T (tkS T b e) = 59 := by
  unfold tcode
  constructor
  · intro h
    by_cases a0 : tkS T b e = b
    · rw [if_pos a0] at h
      exact absurd h (by decide)
    · rw [if_neg a0] at h
      by_cases a1 : isLb (T (tkS T b e)) = true
      · rw [if_pos a1] at h
        by_cases a2 : tkL T b e - tkS T b e ≤ 9
        · rw [if_pos a2] at h
          have hL : ∀ i, i < tkL T b e - tkS T b e → isLb (T (tkS T b e + i)) = true := fun i hi => spn_all isLb T (b - tkS T b e) (tkS T b e) _ (by omega) (show _ < tkL T b e by omega)
          have hlt := codeN_lt _ hL
          have h27 : 27 ^ (tkL T b e - tkS T b e) ≤ 27 ^ 9 := Nat.pow_le_pow_right (by omega) a2
          have hi := congrArg Int64.toInt h
          rw [lN_int (by omega), show (-3 : Int64).toInt = -3 by decide] at hi
          omega
        · rw [if_neg a2] at h
          exact absurd h (by decide)
      · rw [if_neg a1] at h
        by_cases a2 : isDb (T (tkS T b e)) = true
        · rw [if_pos a2] at h
          by_cases a3 : tkD T b e - tkS T b e ≤ 3
          · rw [if_pos a3] at h
            exact absurd h (by decide)
          · rw [if_neg a3] at h
            exact absurd h (by decide)
        · rw [if_neg a2] at h
          by_cases a3 : T (tkS T b e) = 59
          · exact ⟨a0, a3⟩
          · rw [if_neg a3] at h
            exact absurd h (by decide)
  · rintro ⟨a0, h⟩
    rw [if_neg a0, h, if_neg (by decide), if_neg (by decide), if_pos rfl]
/-- a number of one to three digits -/
abbrev nuB (T : Nat → Int32) (s e : Nat) : Prop := s < e ∧ e - s ≤ 3 ∧ isDb (T s) = true
theorem num_iff (he : e ≤ b) : tcode T b e = -1 ↔ nuB T (tkS T b e) (tkE T b e) := by
  have rS := tkS_r (T := T) he
  have rL := tkL_r (T := T) he
  have rD := tkD_r (T := T) he
  have hE := tkE_r (T := T) he
  constructor
  · intro h
    unfold tcode at h
    by_cases a0 : tkS T b e = b
    · rw [if_pos a0] at h
      exact absurd h (by decide)
    · rw [if_neg a0] at h
      by_cases a1 : isLb (T (tkS T b e)) = true
      · rw [if_pos a1] at h
        by_cases a2 : tkL T b e - tkS T b e ≤ 9
        · rw [if_pos a2] at h
          have hL : ∀ i, i < tkL T b e - tkS T b e → isLb (T (tkS T b e + i)) = true := fun i hi => spn_all isLb T (b - tkS T b e) (tkS T b e) _ (by omega) (show _ < tkL T b e by omega)
          have hlt := codeN_lt _ hL
          have h27 : 27 ^ (tkL T b e - tkS T b e) ≤ 27 ^ 9 := Nat.pow_le_pow_right (by omega) a2
          have hi := congrArg Int64.toInt h
          rw [lN_int (by omega), show (-1 : Int64).toInt = -1 by decide] at hi
          omega
        · rw [if_neg a2] at h
          exact absurd h (by decide)
      · rw [if_neg a1] at h
        by_cases a2 : isDb (T (tkS T b e)) = true
        · rw [if_pos a2] at h
          by_cases a3 : tkD T b e - tkS T b e ≤ 3
          · have hp : tkS T b e < tkD T b e := spn_pos (by omega) a2
            have hl : tkL T b e = tkS T b e := spn_zero a1 _
            have hED : tkE T b e = tkD T b e := by
              unfold tkE
              rw [if_neg (by omega), if_neg (by omega)]
            rw [hED]
            exact ⟨hp, a3, a2⟩
          · rw [if_neg a3] at h
            exact absurd h (by decide)
        · rw [if_neg a2] at h
          by_cases a3 : T (tkS T b e) = 59
          · rw [if_pos a3] at h
            exact absurd h (by decide)
          · rw [if_neg a3] at h
            exact absurd h (by decide)
  · rintro ⟨h1, h2, a2⟩
    have a1 : ¬ isLb (T (tkS T b e)) = true := fun z => by
      obtain ⟨x, x1, x2, ex⟩ := isLb_n z
      obtain ⟨y, y1, y2, ey⟩ := isDb_n a2
      have := nI_inj (by omega) (by omega) (ex.symm.trans ey)
      omega
    have hp : tkS T b e < tkD T b e := spn_pos (by omega) a2
    have hl : tkL T b e = tkS T b e := spn_zero a1 _
    have hED : tkE T b e = tkD T b e := by
      unfold tkE
      rw [if_neg (by omega), if_neg (by omega)]
    unfold tcode
    rw [if_neg (by omega), if_neg a1, if_pos a2, if_pos (by omega)]
theorem num_all (he : e ≤ b) (h : nuB T (tkS T b e) (tkE T b e)) : ∀ q, tkS T b e ≤ q → q < tkE T b e → isDb (T q) = true := by
  obtain ⟨h1, h2, a2⟩ := h
  have rS := tkS_r (T := T) he
  have rL := tkL_r (T := T) he
  have rD := tkD_r (T := T) he
  have hE := tkE_r (T := T) he
  have a1 : ¬ isLb (T (tkS T b e)) = true := fun z => by
    obtain ⟨x, x1, x2, ex⟩ := isLb_n z
    obtain ⟨y, y1, y2, ey⟩ := isDb_n a2
    have := nI_inj (by omega) (by omega) (ex.symm.trans ey)
    omega
  have hp : tkS T b e < tkD T b e := spn_pos (by omega) a2
  have hl : tkL T b e = tkS T b e := spn_zero a1 _
  have hED : tkE T b e = tkD T b e := by
    unfold tkE
    rw [if_neg (by omega), if_neg (by omega)]
  intro q h3 h4
  rw [hED] at h4
  exact spn_all isDb T _ _ q h3 h4
end WD
theorem iw_s (f : Nat) : sX5_isWord_l20 (f + 1) = sX5_isWord_b20 (sX5_isWord_l20 f) := rfl
section IW
variable {μ : pMem} {s e w : Nat} {T : Nat → Int32}
theorem l_iw (h3 : μ.1 6 3 = nI s) (hT : μ.1 52 = T) (hs : s + gSl.getD w 0 ≤ 160) : ∀ (j i f : Nat), i + j = gSl.getD w 0 → j < f → wdF T s w i = true → sX5_isWord_l20 f w (nI i) μ = some (bI (wdF T s w (gSl.getD w 0) = true)) := by
  intro j
  induction j with
  | zero =>
    intro i f hij hf hi
    obtain ⟨f, rfl⟩ := fuel_s (Nat.lt_of_le_of_lt (Nat.zero_le _) hf)
    have : i = gSl.getD w 0 := by omega
    rw [this] at hi ⊢
    rw [iw_s]
    unfold sX5_isWord_b20 sLen
    rw [if_pos (show Int32.ofNat (gSl.getD w 0) ≤ nI (gSl.getD w 0) from nI_le (Nat.le_refl _) (by omega)), bI_t hi]
  | succ j ih =>
    intro i f hij hf hi
    obtain ⟨f, rfl⟩ := fuel_s (Nat.lt_of_le_of_lt (Nat.zero_le _) hf)
    rw [iw_s]
    unfold sX5_isWord_b20 sLen
    rw [if_neg (show ¬ Int32.ofNat (gSl.getD w 0) ≤ nI i from nI_ge (by omega) (by omega)), h3, nI_add, hT, if_neg (noob (by omega) (by omega)), if_neg (noob (by omega) (by omega)), nI_clamp (by omega), nI_clamp (by omega), nI_1]
    by_cases z : T (s + i) = sChr w i
    · rw [if_pos z]
      exact ih (i + 1) f (by omega) (by omega) (by rw [wdF_s, hi, Bool.true_and, decide_eq_true_eq]; exact z)
    · rw [if_neg z, bI_f (fun y => z (by
        have := wdF_up (i := i + 1) (by omega) y
        rw [wdF_s, Bool.and_eq_true, decide_eq_true_eq] at this
        exact this.2))]
theorem p_isWord (h3 : μ.1 6 3 = nI s) (h4 : μ.1 6 4 = nI e) (hT : μ.1 52 = T) (hse : s ≤ e) (he : e ≤ 160) (hw : w < 14) : sX5_isWord w μ = some (bI (wdB T s e w)) := by
  obtain ⟨l1, l2⟩ := w_len w hw
  unfold sX5_isWord sLen
  rw [h3, h4, nI_sub' hse (by omega)]
  by_cases z : e - s = gSl.getD w 0
  · rw [if_pos (show nI (e - s) = Int32.ofNat (gSl.getD w 0) from congrArg nI z)]
    refine (l_iw (s := s) h3 hT (by omega) (gSl.getD w 0) 0 5000 (by omega) (by omega) rfl).trans ?_
    exact congrArg some (bI_congr ⟨fun y => ⟨z, y⟩, fun y => y.2⟩)
  · rw [if_neg (show ¬ nI (e - s) = Int32.ofNat (gSl.getD w 0) from fun y => z (nI_inj (by omega) (by omega) y)), bI_f (fun y => z y.1)]
end IW
