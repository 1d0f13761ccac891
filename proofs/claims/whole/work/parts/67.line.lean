/-! lines of the text -/
/-- silence, a choice, a number, behind the word that ends at x -/
def siR (T : Nat → Int32) (b x : Nat) : Sum Nat (Nat × Nat × Int32) :=
  if wdB T (tkS T b x) (tkE T b x) 3 then Sum.inr (tkE T b x, 1, 0) else if wdB T (tkS T b x) (tkE T b x) 4 then Sum.inr (tkE T b x, 1, 1) else Sum.inl (tkS T b x)
def chR (T : Nat → Int32) (b x k u v w : Nat) : Sum Nat (Nat × Nat × Int32) :=
  if wdB T (tkS T b x) (tkE T b x) u then Sum.inr (tkE T b x, k, 0) else if wdB T (tkS T b x) (tkE T b x) v then Sum.inr (tkE T b x, k, 1) else if wdB T (tkS T b x) (tkE T b x) w then Sum.inr (tkE T b x, k, 2) else Sum.inl (tkS T b x)
def nuR (T : Nat → Int32) (b x : Nat) : Sum Nat (Nat × Nat × Int32) :=
  if nuB T (tkS T b x) (tkE T b x) then Sum.inr (tkE T b x, 2, nI (numN T (tkS T b x) (tkE T b x - tkS T b x))) else Sum.inl (tkS T b x)
/-- a line -/
def lnR (T : Nat → Int32) (b e : Nat) : Sum Nat (Nat × Nat × Int32) :=
  if wdB T (tkS T b e) (tkE T b e) 0 then Sum.inr (tkE T b e, 0, 0)
  else if wdB T (tkS T b e) (tkE T b e) 1 then Sum.inr (tkE T b e, 0, 1)
  else if wdB T (tkS T b e) (tkE T b e) 2 then siR T b (tkE T b e)
  else if wdB T (tkS T b e) (tkE T b e) 5 then nuR T b (tkE T b e)
  else if wdB T (tkS T b e) (tkE T b e) 6 then chR T b (tkE T b e) 3 7 8 9
  else if wdB T (tkS T b e) (tkE T b e) 10 then chR T b (tkE T b e) 4 11 12 13
  else Sum.inl (tkS T b e)
/-- what the class leaves as it was -/
def cF (μ ν : pMem) : Prop := (∀ k, k ≠ 6 → k ≠ 54 → ν.1 k = μ.1 k) ∧ (∀ j, j ≠ 3 → j ≠ 4 → ν.1 6 j = μ.1 6 j) ∧ ν.2 = μ.2
theorem cF.rf (μ : pMem) : cF μ μ := ⟨fun _ _ _ => rfl, fun _ _ _ => rfl, rfl⟩
theorem cF.tr {μ ν ξ : pMem} (a : cF μ ν) (c : cF ν ξ) : cF μ ξ := ⟨fun k h1 h2 => (c.1 k h1 h2).trans (a.1 k h1 h2), fun j h1 h2 => (c.2.1 j h1 h2).trans (a.2.1 j h1 h2), c.2.2.trans a.2.2⟩
theorem cF.s54 (μ : pMem) (k : Nat) (v : Int32) : cF μ (st1 μ 54 k v) := ⟨fun q _ h2 => st1_ne μ 54 k v h2, fun j _ _ => by rw [st1_ne _ _ _ _ (by omega)], rfl⟩
/-- how a reader of the class ends -/
def lC (μ : pMem) (o : gO) : Sum Nat (Nat × Nat × Int32) → Prop
  | Sum.inl q => ∃ ν, o = some (0, ν) ∧ ν.1 6 3 = nI q ∧ cF μ ν
  | Sum.inr z => ∃ ν, o = some (1, ν) ∧ ν.1 6 4 = nI z.1 ∧ ν.1 54 = upd (μ.1 54) z.2.1 z.2.2 ∧ cF μ ν
theorem lC.tr {μ ν : pMem} {o : gO} {r : Sum Nat (Nat × Nat × Int32)} (a : cF μ ν) (e : ν.1 54 = μ.1 54) (c : lC ν o r) : lC μ o r := by
  cases r with
  | inl q =>
    obtain ⟨ξ, h1, h2, h3⟩ := c
    exact ⟨ξ, h1, h2, a.tr h3⟩
  | inr z =>
    obtain ⟨ξ, h1, h2, h3, h4⟩ := c
    exact ⟨ξ, h1, h2, by rw [h3, e], a.tr h4⟩
theorem p_put {k : Nat} (hk : k < 5) (v : Int32) (μ : pMem) : sX5_put (nI k) v μ = some (1, st1 μ 54 k v) := by
  unfold sX5_put
  rw [if_neg (noob (by omega) hk), bnd_eq, nI_clamp (by omega)]
section LC
variable {μ : pMem} {b : Nat} {T : Nat → Int32}
theorem q_tok5 (h1 : μ.1 6 1 = nI b) (hb : b ≤ 160) (hT : μ.1 52 = T) {e : Nat} (he : e ≤ b) (h4 : μ.1 6 4 = nI e) : ∃ ν, sX5_nextToken μ = some (0, ν) ∧ ν.1 6 3 = nI (tkS T b e) ∧ ν.1 6 4 = nI (tkE T b e) ∧ ν.1 54 = μ.1 54 ∧ cF μ ν := by
  refine ⟨sM μ (nI (tkS T b e)) (nI (tkE T b e)), ?_, rfl, rfl, rfl, fun k h _ => sM_k μ _ _ h, fun j h2 h3 => by rw [sM_6, if_neg h2, if_neg h3], rfl⟩
  have := p_tok5 h1 hb hT he (μ.1 6 3)
  rw [← h4, sM_id] at this
  exact this
theorem put_ok (x k : Nat) (hk : k < 5) (v : Int32) (h4 : μ.1 6 4 = nI x) : lC μ (cbE (sX5_put (nI k) v μ) fun r m => some (vp_nar .boolean r, m)) (Sum.inr (x, k, v)) := by
  rw [p_put hk, cbE_some, nar1]
  exact ⟨st1 μ 54 k v, rfl, by rw [st1_ne _ _ _ _ (by omega)]; exact h4, by rw [st1_1, if_pos rfl], cF.s54 μ k v⟩
theorem c_sil (h1 : μ.1 6 1 = nI b) (hb : b ≤ 160) (hT : μ.1 52 = T) {x : Nat} (hx : x ≤ b) (h4 : μ.1 6 4 = nI x) : lC μ (sX5_readSilence μ) (siR T b x) := by
  obtain ⟨ν, e1, e2, e3, e4, e5⟩ := q_tok5 h1 hb hT hx h4
  have hT' : ν.1 52 = T := (e5.1 52 (by omega) (by omega)).trans hT
  have rS := tkS_r (T := T) hx
  have rE := tkE_r (T := T) hx
  have W : ∀ w, w < 14 → sX5_isWord w ν = some (bI (wdB T (tkS T b x) (tkE T b x) w)) := fun w hw => p_isWord e2 e3 hT' rE.1 (by omega) hw
  refine lC.tr e5 e4 ?_
  unfold sX5_readSilence siR
  rw [e1, cbE_some, W 3 (by omega), cbR_some, W 4 (by omega), cbR_some]
  by_cases a1 : wdB T (tkS T b x) (tkE T b x) 3
  · rw [bI_t a1, if_neg n10, if_pos a1]
    exact put_ok (tkE T b x) 1 (by omega) 0 e3
  · rw [bI_f a1, if_pos rfl, if_neg a1]
    by_cases a2 : wdB T (tkS T b x) (tkE T b x) 4
    · rw [bI_t a2, if_neg n10, if_pos a2]
      exact put_ok (tkE T b x) 1 (by omega) 1 e3
    · rw [bI_f a2, if_pos rfl, if_neg a2]
      exact ⟨ν, rfl, e2, cF.rf ν⟩
theorem c_cho (h1 : μ.1 6 1 = nI b) (hb : b ≤ 160) (hT : μ.1 52 = T) {x : Nat} (hx : x ≤ b) (h4 : μ.1 6 4 = nI x) {k u v w : Nat} (hk : k < 5) (hu : u < 14) (hv : v < 14) (hw : w < 14) : lC μ (sX5_readChoice (nI k) u v w μ) (chR T b x k u v w) := by
  obtain ⟨ν, e1, e2, e3, e4, e5⟩ := q_tok5 h1 hb hT hx h4
  have hT' : ν.1 52 = T := (e5.1 52 (by omega) (by omega)).trans hT
  have rS := tkS_r (T := T) hx
  have rE := tkE_r (T := T) hx
  have W : ∀ w, w < 14 → sX5_isWord w ν = some (bI (wdB T (tkS T b x) (tkE T b x) w)) := fun w hw => p_isWord e2 e3 hT' rE.1 (by omega) hw
  refine lC.tr e5 e4 ?_
  unfold sX5_readChoice chR
  rw [e1, cbE_some, W u hu, cbR_some, W v hv, cbR_some, W w hw, cbR_some]
  by_cases a1 : wdB T (tkS T b x) (tkE T b x) u
  · rw [bI_t a1, if_neg n10, if_pos a1]
    exact put_ok (tkE T b x) k hk 0 e3
  · rw [bI_f a1, if_pos rfl, if_neg a1]
    by_cases a2 : wdB T (tkS T b x) (tkE T b x) v
    · rw [bI_t a2, if_neg n10, if_pos a2]
      exact put_ok (tkE T b x) k hk 1 e3
    · rw [bI_f a2, if_pos rfl, if_neg a2]
      by_cases a3 : wdB T (tkS T b x) (tkE T b x) w
      · rw [bI_t a3, if_neg n10, if_pos a3]
        exact put_ok (tkE T b x) k hk 2 e3
      · rw [bI_f a3, if_pos rfl, if_neg a3]
        exact ⟨ν, rfl, e2, cF.rf ν⟩
theorem rn_s (f : Nat) : sX5_readNumber_l52 (f + 1) = sX5_readNumber_b52 (sX5_readNumber_l52 f) := rfl
theorem l_rn {s e : Nat} (h4 : μ.1 6 4 = nI e) (hT : μ.1 52 = T) (he : e ≤ 160) (h3 : e - s ≤ 3) (hd : ∀ q, s ≤ q → q < e → isDb (T q) = true) : ∀ (j i f : Nat), i + j = e - s → s ≤ e → j < f → sX5_readNumber_l52 f (nI (numN T s i)) (nI (s + i)) μ = cbE (sX5_put 2 (nI (numN T s (e - s))) μ) fun r m => some (vp_nar .boolean r, m) := by
  intro j
  induction j with
  | zero =>
    intro i f hij hs hf
    obtain ⟨f, rfl⟩ := fuel_s (Nat.lt_of_le_of_lt (Nat.zero_le _) hf)
    have : i = e - s := by omega
    subst this
    rw [rn_s]
    unfold sX5_readNumber_b52
    rw [h4, if_pos (nI_le (by omega) (by omega))]
  | succ j ih =>
    intro i f hij hs hf
    obtain ⟨f, rfl⟩ := fuel_s (Nat.lt_of_le_of_lt (Nat.zero_le _) hf)
    obtain ⟨k, k1, k2, ek⟩ := isDb_n (hd (s + i) (by omega) (by omega))
    have hn : numN T s i < 10 ^ i := numN_le i (fun q hq => by
      obtain ⟨k', _, k2', ek'⟩ := isDb_n (hd (s + q) (by omega) (by omega))
      rw [ek', nv_nI (by omega)]
      exact k2')
    have hn2 : 10 ^ i ≤ 10 ^ 3 := Nat.pow_le_pow_right (by omega) (by omega)
    have e1 := ih (i + 1) f (by omega) hs (by omega)
    rw [numN_s, ek, nv_nI (by omega)] at e1
    rw [rn_s]
    unfold sX5_readNumber_b52
    rw [h4, if_neg (nI_ge (by omega) (by omega)), if_neg (noob (by omega) (by omega)), nI_clamp (by omega), hT, ek, Int32.mul_comm, num_step k1 k2 (by omega), bnd_eq, nI_1]
    exact e1
theorem c_num (h1 : μ.1 6 1 = nI b) (hb : b ≤ 160) (hT : μ.1 52 = T) {x : Nat} (hx : x ≤ b) (h4 : μ.1 6 4 = nI x) : lC μ (sX5_readNumber μ) (nuR T b x) := by
  obtain ⟨ν, e1, e2, e3, e4, e5⟩ := q_tok5 h1 hb hT hx h4
  have hT' : ν.1 52 = T := (e5.1 52 (by omega) (by omega)).trans hT
  have rS := tkS_r (T := T) hx
  have rE := tkE_r (T := T) hx
  refine lC.tr e5 e4 ?_
  unfold sX5_readNumber sX5_readNumber_b43 nuR
  rw [e1, cbE_some, e2, e3, nI_sub' rE.1 (by omega), hT']
  by_cases a1 : tkS T b x < tkE T b x
  · rw [if_neg (nI_ge a1 (by omega))]
    by_cases a2 : tkE T b x - tkS T b x ≤ 3
    · rw [if_neg (show ¬ (3 : Int32) < nI (tkE T b x - tkS T b x) from nI_nlt (a := 3) a2 (by omega)), if_neg (noob (by omega) (by omega)), nI_clamp (by omega), p_dig, cbR_some]
      by_cases a3 : isDb (T (tkS T b x)) = true
      · have a : nuB T (tkS T b x) (tkE T b x) := ⟨a1, a2, a3⟩
        rw [bI_t a3, if_pos n10, bnd_eq, if_pos a]
        have z := l_rn (μ := ν) (s := tkS T b x) e3 hT' (by omega) a2 (num_all hx a) (tkE T b x - tkS T b x) 0 5000 (by omega) rE.1 (by omega)
        rw [show sX5_readNumber_l52 5000 0 (nI (tkS T b x)) ν = _ from z]
        exact put_ok (tkE T b x) 2 (by omega) _ e3
      · rw [bI_f a3, if_neg nn0, if_neg (fun y : nuB T (tkS T b x) (tkE T b x) => a3 y.2.2)]
        exact ⟨ν, rfl, e2, cF.rf ν⟩
    · rw [if_pos (show (3 : Int32) < nI (tkE T b x - tkS T b x) from nI_lt (a := 3) (by omega) (by omega)), if_neg (fun y : nuB T (tkS T b x) (tkE T b x) => a2 y.2.1)]
      exact ⟨ν, rfl, e2, cF.rf ν⟩
  · rw [if_pos (nI_le (by omega) (by omega)), if_neg (fun y : nuB T (tkS T b x) (tkE T b x) => a1 y.1)]
    exact ⟨ν, rfl, e2, cF.rf ν⟩
/-- a reader's word is a truth already -/
theorem lC.nr {o : gO} {r : Sum Nat (Nat × Nat × Int32)} (c : lC μ o r) : lC μ (cbE o fun x m => some (vp_nar .boolean x, m)) r := by
  cases r with
  | inl q =>
    obtain ⟨ξ, h1, h2, h3⟩ := c
    rw [h1, cbE_some, nar0]
    exact ⟨ξ, rfl, h2, h3⟩
  | inr z =>
    obtain ⟨ξ, h1, h2, h3, h4⟩ := c
    rw [h1, cbE_some, nar1]
    exact ⟨ξ, rfl, h2, h3, h4⟩
theorem c_line (h1 : μ.1 6 1 = nI b) (hb : b ≤ 160) (hT : μ.1 52 = T) {e : Nat} (he : e ≤ b) (h4 : μ.1 6 4 = nI e) : lC μ (sX5_readLine μ) (lnR T b e) := by
  obtain ⟨ν, e1, e2, e3, e4, e5⟩ := q_tok5 h1 hb hT he h4
  have hT' : ν.1 52 = T := (e5.1 52 (by omega) (by omega)).trans hT
  have h1' : ν.1 6 1 = nI b := (e5.2.1 1 (by omega) (by omega)).trans h1
  have rS := tkS_r (T := T) he
  have rE := tkE_r (T := T) he
  have W : ∀ w, w < 14 → sX5_isWord w ν = some (bI (wdB T (tkS T b e) (tkE T b e) w)) := fun w hw => p_isWord e2 e3 hT' rE.1 (by omega) hw
  refine lC.tr e5 e4 ?_
  unfold sX5_readLine lnR
  rw [e1, cbE_some, W 0 (by omega), cbR_some, W 1 (by omega), cbR_some, W 2 (by omega), cbR_some, W 5 (by omega), cbR_some, W 6 (by omega), cbR_some, W 10 (by omega), cbR_some]
  by_cases a0 : wdB T (tkS T b e) (tkE T b e) 0
  · rw [bI_t a0, if_neg n10, if_pos a0]
    exact put_ok (tkE T b e) 0 (by omega) 0 e3
  · rw [bI_f a0, if_pos rfl, if_neg a0]
    by_cases a1 : wdB T (tkS T b e) (tkE T b e) 1
    · rw [bI_t a1, if_neg n10, if_pos a1]
      exact put_ok (tkE T b e) 0 (by omega) 1 e3
    · rw [bI_f a1, if_pos rfl, if_neg a1]
      by_cases a2 : wdB T (tkS T b e) (tkE T b e) 2
      · rw [bI_t a2, if_neg n10, if_pos a2]
        exact (c_sil h1' hb hT' rE.2 e3).nr
      · rw [bI_f a2, if_pos rfl, if_neg a2]
        by_cases a5 : wdB T (tkS T b e) (tkE T b e) 5
        · rw [bI_t a5, if_neg n10, if_pos a5]
          exact (c_num h1' hb hT' rE.2 e3).nr
        · rw [bI_f a5, if_pos rfl, if_neg a5]
          by_cases a6 : wdB T (tkS T b e) (tkE T b e) 6
          · rw [bI_t a6, if_neg n10, if_pos a6]
            exact (c_cho h1' hb hT' rE.2 e3 (k := 3) (u := 7) (v := 8) (w := 9) (by omega) (by omega) (by omega) (by omega)).nr
          · rw [bI_f a6, if_pos rfl, if_neg a6]
            by_cases a10 : wdB T (tkS T b e) (tkE T b e) 10
            · rw [bI_t a10, if_neg n10, if_pos a10]
              exact (c_cho h1' hb hT' rE.2 e3 (k := 4) (u := 11) (v := 12) (w := 13) (by omega) (by omega) (by omega) (by omega)).nr
            · rw [bI_f a10, if_pos rfl, if_neg a10]
              exact ⟨ν, rfl, e2, cF.rf ν⟩
end LC
/-! the other side's lines -/
def mF (μ ν : pMem) : Prop := (∀ k, k ≠ 9 → k ≠ 77 → ν.1 k = μ.1 k) ∧ (∀ j, (j < 17 ∨ 22 < j) → ν.1 9 j = μ.1 9 j) ∧ ν.2 10 = μ.2 10
theorem mF.rf (μ : pMem) : mF μ μ := ⟨fun _ _ _ => rfl, fun _ _ => rfl, rfl⟩
theorem mF.tr {μ ν ξ : pMem} (a : mF μ ν) (c : mF ν ξ) : mF μ ξ := ⟨fun k h1 h2 => (c.1 k h1 h2).trans (a.1 k h1 h2), fun j h => (c.2.1 j h).trans (a.2.1 j h), c.2.2.trans a.2.2⟩
theorem mF.s77 (μ : pMem) (k : Nat) (v : Int32) : mF μ (st1 μ 77 k v) := ⟨fun q _ h2 => st1_ne μ 77 k v h2, fun j _ => by rw [st1_ne _ _ _ _ (by omega)], rfl⟩
theorem mF.s22 (μ : pMem) (v : Int32) : mF μ (st1 μ 9 22 v) := ⟨fun q h1 _ => st1_ne μ 9 22 v h1, fun j h => by rw [st1_at, if_neg (by omega)], rfl⟩
def lM (μ : pMem) (o : gO) : Sum Nat (Nat × Nat × Int32) → Prop
  | Sum.inl q => ∃ ν, o = some (0, ν) ∧ ν.1 9 22 = nI q ∧ mF μ ν
  | Sum.inr z => ∃ ν, o = some (1, ν) ∧ ν.1 9 17 = nI z.1 ∧ ν.1 77 = upd (μ.1 77) z.2.1 z.2.2 ∧ mF μ ν
theorem lM.tr {μ ν : pMem} {o : gO} {r : Sum Nat (Nat × Nat × Int32)} (a : mF μ ν) (e : ν.1 77 = μ.1 77) (c : lM ν o r) : lM μ o r := by
  cases r with
  | inl q =>
    obtain ⟨ξ, h1, h2, h3⟩ := c
    exact ⟨ξ, h1, h2, a.tr h3⟩
  | inr z =>
    obtain ⟨ξ, h1, h2, h3, h4⟩ := c
    exact ⟨ξ, h1, h2, by rw [h3, e], a.tr h4⟩
theorem lM.nr {μ : pMem} {o : gO} {r : Sum Nat (Nat × Nat × Int32)} (c : lM μ o r) : lM μ (cbE o fun x m => some (vp_nar .boolean x, m)) r := by
  cases r with
  | inl q =>
    obtain ⟨ξ, h1, h2, h3⟩ := c
    rw [h1, cbE_some, nar0]
    exact ⟨ξ, rfl, h2, h3⟩
  | inr z =>
    obtain ⟨ξ, h1, h2, h3, h4⟩ := c
    rw [h1, cbE_some, nar1]
    exact ⟨ξ, rfl, h2, h3, h4⟩
theorem cw0 (t : Int64) (w : Nat) : lg_cmp t (lN w) = 0 ↔ t = lN w := lg_cmp_eq t (lN w)
section LM
variable {μ : pMem} {b : Nat} {T : Nat → Int32}
theorem q_tok9 (h1 : μ.1 9 15 = nI b) (hb : b ≤ 160) (hT : μ.1 76 = T) {e : Nat} (he : e ≤ b) (h7 : μ.1 9 17 = nI e) : ∃ ν, sX9_nextToken μ = some (0, ν) ∧ ν.1 9 17 = nI (tkE T b e) ∧ ν.1 9 18 = nI (tkS T b e) ∧ ν.2 9 19 = tcode T b e ∧ (tcode T b e = -1 → ν.1 9 21 = nI (numN T (tkS T b e) (tkE T b e - tkS T b e))) ∧ ν.1 77 = μ.1 77 ∧ mF μ ν := by
  obtain ⟨d', n', z1, z2⟩ := p_tok9 h1 hb hT he (μ.1 9 18) (μ.1 9 20) (μ.1 9 21) (μ.2 9 19)
  rw [← h7, nM_id] at z1
  refine ⟨nM μ (nI (tkE T b e)) (nI (tkS T b e)) d' n' (tcode T b e), z1, rfl, rfl, nM_tk _ _ _ _ _ _, z2, rfl, fun k h _ => nM_k μ _ _ _ _ _ h, fun j h => ?_, rfl⟩
  rw [nM_9, if_neg (by omega), if_neg (by omega), if_neg (by omega), if_neg (by omega)]
theorem m_of {ν : pMem} {x k : Nat} (hx : x ≤ b) (hk : k < 5) (t0 : Int32) (h17 : ν.1 9 17 = nI (tkE T b x)) (h18 : ν.1 9 18 = nI (tkS T b x)) (ht : t0 = -1 ∨ (¬ t0 = -1 ∧ True)) : lM ν (sX9_isOf_b51 (nI k) t0 (nI k) ν) (if t0 = -1 then Sum.inl (tkS T b x) else Sum.inr (tkE T b x, k, t0)) := by
  unfold sX9_isOf_b51 sX9_isOf_b69 sX9_isOf_b74 sX9_fails
  rw [if_neg (noob (by omega) hk), bnd_eq, if_neg (noob (by omega) hk), nI_clamp (by omega), st1_at, if_pos rfl, nar0, nar1, bnd_eq, cbE_some, if_pos rfl]
  by_cases z : t0 = -1
  · rw [if_neg (not_not_intro z), if_pos z]
    refine ⟨st1 (st1 ν 77 k t0) 9 22 ((st1 ν 77 k t0).1 9 18), rfl, ?_, (mF.s77 ν k t0).tr (mF.s22 _ _)⟩
    rw [st1_at, if_pos rfl, st1_ne _ _ _ _ (by omega)]
    exact h18
  · rw [if_pos z, if_neg z]
    exact ⟨st1 ν 77 k t0, rfl, by rw [st1_ne _ _ _ _ (by omega)]; exact h17, by rw [st1_1, if_pos rfl], mF.s77 ν k t0⟩
theorem m_cho (h1 : μ.1 9 15 = nI b) (hb : b ≤ 160) (hT : μ.1 76 = T) {x : Nat} (hx : x ≤ b) (h7 : μ.1 9 17 = nI x) {k u v w : Nat} (hk : k < 5) (hu : u < 14) (hv : v < 14) (hw : w < 14) : lM μ (sX9_isOf (nI k) (lN (WC.getD u 0)) (lN (WC.getD v 0)) (lN (WC.getD w 0)) μ) (chR T b x k u v w) := by
  obtain ⟨ν, e1, e2, e3, e4, -, e6, e7⟩ := q_tok9 h1 hb hT hx h7
  refine lM.tr e7 e6 ?_
  unfold sX9_isOf chR
  rw [e1, cbE_some, e4]
  simp only [cw0, word_iff hx hu, word_iff hx hv, word_iff hx hw]
  by_cases a1 : wdB T (tkS T b x) (tkE T b x) u
  · rw [if_neg (not_not_intro a1), if_pos a1]
    exact m_of hx hk 0 e2 e3 (Or.inr ⟨by decide, trivial⟩)
  · rw [if_pos a1, if_neg a1]
    by_cases a2 : wdB T (tkS T b x) (tkE T b x) v
    · rw [if_neg (not_not_intro a2), if_pos a2]
      exact m_of hx hk 1 e2 e3 (Or.inr ⟨by decide, trivial⟩)
    · rw [if_pos a2, if_neg a2]
      by_cases a3 : wdB T (tkS T b x) (tkE T b x) w
      · rw [if_neg (not_not_intro a3), if_pos a3]
        exact m_of hx hk 2 e2 e3 (Or.inr ⟨by decide, trivial⟩)
      · rw [if_pos a3, if_neg a3]
        exact m_of hx hk (-1) e2 e3 (Or.inl rfl)
theorem m_sil (h1 : μ.1 9 15 = nI b) (hb : b ≤ 160) (hT : μ.1 76 = T) {x : Nat} (hx : x ≤ b) (h7 : μ.1 9 17 = nI x) : lM μ (sX9_isOf (nI 1) (lN 393) (lN 18379) (lN 18379) μ) (siR T b x) := by
  have z := m_cho h1 hb hT hx h7 (k := 1) (u := 3) (v := 4) (w := 4) (by omega) (by omega) (by omega) (by omega)
  have e : chR T b x 1 3 4 4 = siR T b x := by
    unfold chR siR
    by_cases a1 : wdB T (tkS T b x) (tkE T b x) 3
    · rw [if_pos a1, if_pos a1]
    · rw [if_neg a1, if_neg a1]
      by_cases a2 : wdB T (tkS T b x) (tkE T b x) 4
      · rw [if_pos a2, if_pos a2]
      · rw [if_neg a2, if_neg a2, if_neg a2]
  rw [e] at z
  exact z
theorem m_line (h1 : μ.1 9 15 = nI b) (hb : b ≤ 160) (hT : μ.1 76 = T) {e : Nat} (he : e ≤ b) (h7 : μ.1 9 17 = nI e) : lM μ (sX9_isLine μ) (lnR T b e) := by
  obtain ⟨ν, e1, e2, e3, e4, -, e6, e7⟩ := q_tok9 h1 hb hT he h7
  have rE := tkE_r (T := T) he
  have hT' : ν.1 76 = T := (e7.1 76 (by omega) (by omega)).trans hT
  have h1' : ν.1 9 15 = nI b := (e7.2.1 15 (by omega)).trans h1
  refine lM.tr e7 e6 ?_
  have W0 : lg_cmp (ν.2 9 19) 94310429 = 0 ↔ wdB T (tkS T b e) (tkE T b e) 0 := by rw [e4]; exact (cw0 _ 94310429).trans (word_iff he (w := 0) (by omega))
  have W1 : lg_cmp (ν.2 9 19) 1834205 = 0 ↔ wdB T (tkS T b e) (tkE T b e) 1 := by rw [e4]; exact (cw0 _ 1834205).trans (word_iff he (w := 1) (by omega))
  have W2 : lg_cmp (ν.2 9 19) 7496615453 = 0 ↔ wdB T (tkS T b e) (tkE T b e) 2 := by rw [e4]; exact (cw0 _ 7496615453).trans (word_iff he (w := 2) (by omega))
  have W5 : lg_cmp (ν.2 9 19) 335207579 = 0 ↔ wdB T (tkS T b e) (tkE T b e) 5 := by rw [e4]; exact (cw0 _ 335207579).trans (word_iff he (w := 5) (by omega))
  have W6 : lg_cmp (ν.2 9 19) 10256063 = 0 ↔ wdB T (tkS T b e) (tkE T b e) 6 := by rw [e4]; exact (cw0 _ 10256063).trans (word_iff he (w := 6) (by omega))
  have W10 : lg_cmp (ν.2 9 19) 11716 = 0 ↔ wdB T (tkS T b e) (tkE T b e) 10 := by rw [e4]; exact (cw0 _ 11716).trans (word_iff he (w := 10) (by omega))
  unfold sX9_isLine sX9_isLine_b26 sX9_isLine_b47 lnR
  rw [e1, cbE_some]
  simp only [W0, W1, W2, W5, W6, W10, if_neg (show ¬ oob (0 : Int32) 5 by decide), bnd_eq, show (0 : Int32).toNatClampNeg = 0 from rfl]
  by_cases a0 : wdB T (tkS T b e) (tkE T b e) 0
  · rw [if_pos a0, if_neg (not_not_intro a0), if_pos a0]
    exact ⟨st1 ν 77 0 0, rfl, by rw [st1_ne _ _ _ _ (by omega)]; exact e2, by rw [st1_1, if_pos rfl], mF.s77 ν 0 0⟩
  · rw [if_neg a0, if_neg a0, if_pos a0]
    by_cases a1 : wdB T (tkS T b e) (tkE T b e) 1
    · rw [if_neg (not_not_intro a1), if_pos a1]
      exact ⟨st1 ν 77 0 1, rfl, by rw [st1_ne _ _ _ _ (by omega)]; exact e2, by rw [st1_1, if_pos rfl], mF.s77 ν 0 1⟩
    · rw [if_pos a1, if_neg a1]
      by_cases a2 : wdB T (tkS T b e) (tkE T b e) 2
      · rw [if_neg (not_not_intro a2), if_pos a2]
        exact (m_sil h1' hb hT' rE.2 e2).nr
      · rw [if_pos a2, if_neg a2]
        by_cases a5 : wdB T (tkS T b e) (tkE T b e) 5
        · rw [if_neg (not_not_intro a5), if_pos a5]
          obtain ⟨ξ, y1, y2, y3, y4, y5, y6, y7⟩ := q_tok9 h1' hb hT' rE.2 e2
          refine lM.tr y7 y6 ?_
          unfold sX9_isLine_b119 sX9_isLine_b124 sX9_fails nuR
          rw [y1, cbE_some, bnd_eq, show (2 : Int32).toNatClampNeg = 2 from rfl, show (st1 ξ 77 2 (ξ.1 9 21)).2 = ξ.2 from rfl, y4, cbE_some, if_pos rfl, nar0, nar1]
          have N : lg_cmp (tcode T b (tkE T b e)) (-1) = 0 ↔ nuB T (tkS T b (tkE T b e)) (tkE T b (tkE T b e)) := (lg_cmp_eq _ _).trans (num_iff rE.2)
          by_cases a : nuB T (tkS T b (tkE T b e)) (tkE T b (tkE T b e))
          · rw [if_pos (N.mpr a), if_pos a]
            refine ⟨_, rfl, ?_, ?_, mF.s77 ξ 2 _⟩
            · rw [st1_ne _ _ _ _ (by omega)]
              exact y2
            · rw [st1_1, if_pos rfl, y5 ((num_iff rE.2).mpr a)]
          · rw [if_neg (fun z => a (N.mp z)), if_neg a]
            refine ⟨_, rfl, ?_, (mF.s77 ξ 2 _).tr (mF.s22 _ _)⟩
            rw [st1_at, if_pos rfl, st1_ne _ _ _ _ (by omega)]
            exact y3
        · rw [if_pos a5, if_neg a5]
          by_cases a6 : wdB T (tkS T b e) (tkE T b e) 6
          · rw [if_neg (not_not_intro a6), if_pos a6]
            exact (m_cho h1' hb hT' rE.2 e2 (k := 3) (u := 7) (v := 8) (w := 9) (by omega) (by omega) (by omega) (by omega)).nr
          · rw [if_pos a6, if_neg a6]
            unfold sX9_isLine_b183 sX9_fails
            by_cases a10 : wdB T (tkS T b e) (tkE T b e) 10
            · rw [if_neg (not_not_intro a10), if_pos a10]
              exact (m_cho h1' hb hT' rE.2 e2 (k := 4) (u := 11) (v := 12) (w := 13) (by omega) (by omega) (by omega) (by omega)).nr
            · rw [if_pos a10, if_neg a10, bnd_eq, cbE_some, nar0]
              exact ⟨_, rfl, by rw [st1_at, if_pos rfl]; exact e3, mF.s22 ν _⟩
end LM
