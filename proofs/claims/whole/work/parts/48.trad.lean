/-! trade: what is handed on -/
theorem exB_congr {P Q : Nat → Bool} : ∀ {n : Nat}, (∀ x, x < n → P x = Q x) → exB P n = exB Q n
  | 0, _ => rfl
  | n + 1, h => by rw [exB_s, exB_s, exB_congr (fun x hx => h x (by omega)), h n (by omega)]
theorem hands_congr {m : pMem} {w : Nat} {W W' : Nat → Int32} {p : Int32} {q : Nat} {D out : Int32} {x : Nat} (h : W x = W' x) : hands m w W p q D out x = hands m w W' p q D out x := by
  unfold hands
  rw [h]
/-- bound, as the changes ahead of J say -/
abbrev bnB (m : pMem) (w : Nat) (W : Nat → Int32) (i q : Nat) (D out : Int32) (J : Nat) (ahead : Int32) : Prop := (m.1 80 i = nI q ∧ ¬ ahead ≤ m.1 83 i) ∨ exB (hands m w W (nI i) q D out) J = true
/-- of whom a change asks -/
def sbj (m : pMem) (n : Nat) : Nat := nv (if m.1 68 n = 2 then m.1 71 n else m.1 70 n)
/-- whether that one was bound -/
def wF (m : pMem) (w i : Nat) (out : Int32) : Nat → Nat → Int32
  | 0 => fun _ => 0
  | n + 1 => upd (wF m w i out n) n (bI (¬ 3 ≤ m.1 68 n ∧ bnB m w (wF m w i out n) i (sbj m n) (m.1 69 n) out n (m.1 69 n)))
theorem wF_s (m : pMem) (w i : Nat) (out : Int32) (n : Nat) : wF m w i out (n + 1) = upd (wF m w i out n) n (bI (¬ 3 ≤ m.1 68 n ∧ bnB m w (wF m w i out n) i (sbj m n) (m.1 69 n) out n (m.1 69 n))) := rfl
def wV (m : pMem) (w i : Nat) (out : Int32) (x : Nat) : Int32 := wF m w i out (x + 1) x
theorem wF_lt {m : pMem} {w i : Nat} {out : Int32} : ∀ {n x : Nat}, x < n → wF m w i out n x = wV m w i out x
  | 0, x, h => absurd h (Nat.not_lt_zero _)
  | n + 1, x, h => by
    rcases Nat.lt_or_ge x n with z | z
    · rw [wF_s, upd_ne _ _ (by omega), wF_lt z]
    · rw [show x = n by omega]; rfl
theorem wV_eq (m : pMem) (w i : Nat) (out : Int32) (x : Nat) : wV m w i out x = bI (¬ 3 ≤ m.1 68 x ∧ bnB m w (wV m w i out) i (sbj m x) (m.1 69 x) out x (m.1 69 x)) := by
  show wF m w i out (x + 1) x = _
  rw [wF_s, upd_eq]
  apply bI_congr
  unfold bnB
  rw [exB_congr (fun y hy => hands_congr (wF_lt hy))]
/-- came out of one that was bound -/
def cO (m : pMem) (W : Nat → Int32) (q x : Nat) : Bool := decide (¬ W x = 0 ∧ cmB m x q = true)
/-- joined with one that was bound -/
def jO (m : pMem) (W : Nat → Int32) (q x : Nat) : Bool := decide (¬ W x = 0 ∧ m.1 68 x = 2 ∧ m.1 70 x = nI q ∧ m.1 78 0 = 0)
theorem exB_hands {m : pMem} {w : Nat} {W : Nat → Int32} {p : Int32} {q : Nat} {D out : Int32} {j : Nat} : exB (hands m w W p q D out) j = true ↔ exB (jO m W q) j = true ∨ (exB (cO m W q) j = true ∧ wL m w p q D out) := by
  rw [exB_iff, exB_iff, exB_iff]
  have e1 : ∀ x, hands m w W p q D out x = true ↔ (¬ W x = 0 ∧ ((m.1 68 x = 2 ∧ m.1 70 x = nI q ∧ m.1 78 0 = 0) ∨ (cmB m x q = true ∧ wL m w p q D out))) := fun x => by unfold hands; exact decide_eq_true_iff
  have e2 : ∀ x, jO m W q x = true ↔ (¬ W x = 0 ∧ m.1 68 x = 2 ∧ m.1 70 x = nI q ∧ m.1 78 0 = 0) := fun x => by unfold jO; exact decide_eq_true_iff
  have e3 : ∀ x, cO m W q x = true ↔ (¬ W x = 0 ∧ cmB m x q = true) := fun x => by unfold cO; exact decide_eq_true_iff
  constructor
  · rintro ⟨x, hx, h⟩
    obtain ⟨h1, h2 | ⟨h2, h3⟩⟩ := (e1 x).mp h
    · exact Or.inl ⟨x, hx, (e2 x).mpr ⟨h1, h2⟩⟩
    · exact Or.inr ⟨⟨x, hx, (e3 x).mpr ⟨h1, h2⟩⟩, h3⟩
  · rintro (⟨x, hx, h⟩ | ⟨⟨x, hx, h⟩, h3⟩)
    · obtain ⟨h1, h2⟩ := (e2 x).mp h
      exact ⟨x, hx, (e1 x).mpr ⟨h1, Or.inl h2⟩⟩
    · obtain ⟨h1, h2⟩ := (e3 x).mp h
      exact ⟨x, hx, (e1 x).mpr ⟨h1, Or.inr ⟨h2, h3⟩⟩⟩
/-- up to the day of signing nobody hands on -/
theorem wV_z {m : pMem} {w i : Nat} {out : Int32} {s : Nat} (hd : ∀ x, x < s → m.1 69 x ≤ m.1 83 i) : ∀ x, x < s → wV m w i out x = 0 := by
  intro x
  induction x using Nat.strongRecOn with
  | ind x ih =>
    intro hx
    rw [wV_eq]
    refine bI_f ?_
    rintro ⟨-, ⟨-, z⟩ | z⟩
    · exact z (hd x hx)
    · obtain ⟨y, hy, e⟩ := exB_iff.mp z
      unfold hands at e
      exact (of_decide_eq_true e).1 (ih y hy (by omega))
section TR
variable {m : pMem} {c g l w : Nat}
theorem IH.sb (h : IH m c g l) {n : Nat} (hn : n < c) : sbj m n < l ∧ (if m.1 68 n = 2 then m.1 71 n else m.1 70 n) = nI (sbj m n) := by
  have hl := h.lle
  have hm := h.lnl (j := n) (by omega)
  unfold sbj
  by_cases k : m.1 68 n = 2
  · obtain ⟨b, hb, eb, -⟩ := h.br n hn (Or.inl k)
    rw [if_pos k, eb, nv_nI (by omega)]
    exact ⟨by omega, rfl⟩
  · obtain ⟨a, ha, ea, -⟩ := h.ar n hn
    rw [if_neg k, ea, nv_nI (by omega)]
    exact ⟨by omega, rfl⟩
theorem IH.dlt (h : IH m c g l) {n : Nat} (hn : n < c) : m.1 69 n < 1000 := by
  obtain ⟨k, hk, e⟩ := h.dr n hn
  rw [e]
  exact nI_lt (b := 1000) (by omega) (by decide)
theorem IH.up93 (h : IH m c g l) (F : Nat → Int32) : IH (up1 m 93 F) c g l := h.congr ⟨rfl, rfl, rfl, rfl, rfl, rfl, rfl, rfl, rfl, rfl, rfl, rfl, rfl, rfl, rfl, rfl, rfl, rfl, rfl, rfl, rfl, rfl, rfl, rfl, rfl, rfl, rfl, rfl, rfl, rfl, rfl, fun j hj => by simp only [up1_1, st1_1, mkM_1]; (repeat rw [if_neg (by omega)])⟩
theorem p_isB93 (h : IH m c g l) (hw : w ≤ 24) (h9 : m.1 9 32 = nI w) {out : Int32} (ho : m.1 9 38 = out) {i : Nat} (hi : i < 12) {q : Nat} (hq : q < l) {D : Int32} (hD : D < 1000) (hd : ∀ i, i < w → ¬ m.1 86 i < 0) {J : Nat} (hJ : J ≤ c) {F : Nat → Int32} (hF : ∀ x, x < J → F x = wV m w i out x) (ahead : Int32) : sX9_isBound (nI i) (nI q) (nI J) D ahead (up1 m 93 F) = some (bI (bnB m w (wV m w i out) i q D out J ahead)) := by
  have z := p_isBound (m := up1 m 93 F) (h.up93 F) hw h9 ho hi hq hD hd hJ ahead
  rw [z]
  refine congrArg some (bI_congr (or_congr Iff.rfl ?_))
  rw [show hands (up1 m 93 F) w ((up1 m 93 F).1 93) (nI i) q D out = hands m w F (nI i) q D out from rfl, exB_congr (fun x hx => hands_congr (hF x hx))]
theorem st_up (m : pMem) (k : Nat) (A : Nat → Int32) (n : Nat) (x : Int32) : st1 (up1 m k A) k n x = up1 m k (upd A n x) := by
  refine Prod.ext (funext fun q => ?_) rfl
  show (if q = k then upd ((up1 m k A).1 k) n x else (up1 m k A).1 q) = if q = k then upd A n x else m.1 q
  by_cases hk : q = k
  · rw [if_pos hk, if_pos hk, show (up1 m k A).1 k = A from if_pos rfl]
  · rw [if_neg hk, if_neg hk]
    exact if_neg hk
theorem st_up93 (m : pMem) (F : Nat → Int32) (n : Nat) (v : Int32) : st1 (up1 m 93 F) 93 n v = up1 m 93 (upd F n v) := st_up m 93 F n v
theorem up93_id (m : pMem) : up1 m 93 (m.1 93) = m := by
  refine Prod.ext (funext fun k => ?_) rfl
  rw [up1_1]
  by_cases hk : k = 93
  · rw [if_pos hk, hk]
  · rw [if_neg hk]
theorem t3_s (f : Nat) : sX9_byTrade_l3 (f + 1) = sX9_byTrade_b3 (sX9_byTrade_l3 f) := rfl
theorem t100_s (f : Nat) : sX9_byTrade_l100 (f + 1) = sX9_byTrade_b100 (sX9_byTrade_l100 f) := rfl
theorem l_byT3 (h : IH m c g l) (hw : w ≤ 24) (h9 : m.1 9 32 = nI w) {out : Int32} (ho : m.1 9 38 = out) {i : Nat} (hi : i < 12) (hd : ∀ i, i < w → ¬ m.1 86 i < 0) {C : Nat} (hC : C ≤ c) (d : Int32) : ∀ (j n f : Nat), n + j = C → j < f → ∀ F : Nat → Int32, (∀ x, x < n → F x = wV m w i out x) → ∃ F' : Nat → Int32, sX9_byTrade_l3 f (nI i) (nI C) d (nI n) (up1 m 93 F) = sX9_byTrade_l100 5000 (nI i) (nI C) d 0 0 (up1 m 93 F') ∧ ∀ x, x < C → F' x = wV m w i out x := by
  have hc := h.cle
  have hl := h.lle
  intro j
  induction j with
  | zero =>
    intro n f hij hf F hF
    obtain ⟨f, rfl⟩ := fuel_s (Nat.lt_of_le_of_lt (Nat.zero_le _) hf)
    have : n = C := by omega
    subst this
    refine ⟨F, ?_, hF⟩
    rw [t3_s]
    unfold sX9_byTrade_b3
    rw [if_pos (nI_le (Nat.le_refl _) (by omega))]
  | succ j ih =>
    intro n f hij hf F hF
    obtain ⟨f, rfl⟩ := fuel_s (Nat.lt_of_le_of_lt (Nat.zero_le _) hf)
    have hn : n < c := by omega
    obtain ⟨hsb, esb⟩ := h.sb hn
    have hb := p_isB93 h hw h9 ho hi hsb (h.dlt hn) hd (J := n) (by omega) hF (m.1 69 n)
    have step : ∀ b, b = wV m w i out n → ∃ F' : Nat → Int32, sX9_byTrade_l3 f (nI i) (nI C) d (nI (n + 1)) (st1 (up1 m 93 F) 93 n b) = sX9_byTrade_l100 5000 (nI i) (nI C) d 0 0 (up1 m 93 F') ∧ ∀ x, x < C → F' x = wV m w i out x := by
      intro b hbv
      rw [st_up93]
      refine ih (n + 1) f (by omega) (by omega) (upd F n b) (fun x hx => ?_)
      rcases Nat.lt_or_ge x n with z | z
      · rw [upd_ne _ _ (by omega)]; exact hF x z
      · rw [show x = n by omega, upd_eq]; exact hbv
    have core : ∃ F' : Nat → Int32, sX9_byTrade_b37 (sX9_byTrade_l3 f) (nI i) (nI C) d (nI n) (nI (sbj m n)) (up1 m 93 F) = sX9_byTrade_l100 5000 (nI i) (nI C) d 0 0 (up1 m 93 F') ∧ ∀ x, x < C → F' x = wV m w i out x := by
      unfold sX9_byTrade_b37 sX9_byTrade_b86 sX9_byTrade_b87
      rw [show (up1 m 93 F).1 68 = m.1 68 from rfl, show (up1 m 93 F).1 69 = m.1 69 from rfl]
      simp only [if_neg (noob (i := n) (n := 12) (by omega) (by omega)), nI_clamp (show n < 2 ^ 31 by omega), nI_1, bnd_eq, nar0, nar1]
      by_cases k : 3 ≤ m.1 68 n
      · rw [if_pos k]
        exact step 0 (by rw [wV_eq, bI_f (fun z => z.1 k)])
      · rw [if_neg k, hb, cbR_some]
        by_cases z : bnB m w (wV m w i out) i (sbj m n) (m.1 69 n) out n (m.1 69 n)
        · rw [bI_t z, if_neg n10]
          exact step 1 (by rw [wV_eq, bI_t ⟨k, z⟩])
        · rw [bI_f z, if_pos rfl]
          exact step 0 (by rw [wV_eq, bI_f (fun y => z y.2)])
    rw [t3_s]
    unfold sX9_byTrade_b3
    rw [if_neg (nI_ge (by omega) (by omega)), show (up1 m 93 F).1 68 = m.1 68 from rfl, show (up1 m 93 F).1 70 = m.1 70 from rfl, show (up1 m 93 F).1 71 = m.1 71 from rfl]
    simp only [if_neg (noob (i := n) (n := 12) (by omega) (by omega)), nI_clamp (show n < 2 ^ 31 by omega)]
    by_cases k : m.1 68 n = 2
    · rw [if_pos k] at esb
      rw [if_neg (not_not_intro k), esb]
      exact core
    · rw [if_neg k] at esb
      rw [if_pos k, esb]
      exact core
/-- the bits of those who are bound -/
def trS (m : pMem) (w : Nat) (W : Nat → Int32) (i : Nat) (d out : Int32) (C : Nat) : Nat → Int32
  | 0 => 0
  | q + 1 => trS m w W i d out C q ||| (if bt (m.1 75 C) q = true ∧ bnB m w W i q d out C (d + 1) then (1 : Int32) <<< (nI q &&& 31) else 0)
theorem trS_s (m : pMem) (w : Nat) (W : Nat → Int32) (i : Nat) (d out : Int32) (C q : Nat) : trS m w W i d out C (q + 1) = trS m w W i d out C q ||| (if bt (m.1 75 C) q = true ∧ bnB m w W i q d out C (d + 1) then (1 : Int32) <<< (nI q &&& 31) else 0) := rfl
theorem or_0 (x : Int32) : x ||| 0 = x := b_ext (fun i _ => by rw [b_or, b_0, Bool.or_false])
theorem IH.isT (h : IH m c g l) {q : Nat} (hq : q < l) (t : Int32) : isTh t (nI q) l ↔ bt t q = true := by
  have hl := h.lle
  exact ⟨fun z => by have := z.2; rw [nv_nI (by omega)] at this; exact this, fun z => ⟨(inN_iff (show l < 2 ^ 31 by omega)).mpr ⟨q, hq, rfl⟩, by rw [nv_nI (by omega)]; exact z⟩⟩
theorem l_byT100 (h : IH m c g l) (hw : w ≤ 24) (h9 : m.1 9 32 = nI w) {out : Int32} (ho : m.1 9 38 = out) {i : Nat} (hi : i < 12) (hd : ∀ i, i < w → ¬ m.1 86 i < 0) {C : Nat} (hC : C ≤ c) {d : Int32} (hD : d < 1000) {F : Nat → Int32} (hF : ∀ x, x < C → F x = wV m w i out x) : ∀ (j q f : Nat), q + j = l → j < f → sX9_byTrade_l100 f (nI i) (nI C) d (trS m w (wV m w i out) i d out C q) (nI q) (up1 m 93 F) = some (trS m w (wV m w i out) i d out C l, up1 m 93 F) := by
  have hc := h.cle
  have hl := h.lle
  intro j
  induction j with
  | zero =>
    intro q f hij hf
    obtain ⟨f, rfl⟩ := fuel_s (Nat.lt_of_le_of_lt (Nat.zero_le _) hf)
    have : q = l := by omega
    subst this
    rw [t100_s]
    unfold sX9_byTrade_b100
    rw [(h.up93 F).l9, if_pos (nI_le (Nat.le_refl _) (by omega))]
  | succ j ih =>
    intro q f hij hf
    obtain ⟨f, rfl⟩ := fuel_s (Nat.lt_of_le_of_lt (Nat.zero_le _) hf)
    have hq : q < l := by omega
    have e := ih (q + 1) f (by omega) (by omega)
    rw [trS_s] at e
    rw [t100_s]
    unfold sX9_byTrade_b100 sX9_byTrade_b143 sX9_byTrade_b144
    rw [(h.up93 F).l9, if_neg (nI_ge (by omega) (by omega)), (h.up93 F).isThere9 hC, cbR_some, p_isB93 h hw h9 ho hi hq hD hd hC hF, cbR_some, show (up1 m 93 F).1 75 = m.1 75 from rfl, nI_1, bnd_eq, bnd_eq]
    by_cases a1 : bt (m.1 75 C) q = true
    · rw [bI_t ((h.isT hq _).mpr a1), if_neg n10]
      by_cases a2 : bnB m w (wV m w i out) i q d out C (d + 1)
      · rw [bI_t a2, if_neg n10]
        rw [if_pos ⟨a1, a2⟩] at e
        exact e
      · rw [bI_f a2, if_pos rfl]
        rw [if_neg (fun z => a2 z.2)] at e
        exact e
    · rw [bI_f (fun z => a1 ((h.isT hq _).mp z)), if_pos rfl]
      rw [if_neg (fun z => a1 z.1)] at e
      exact e
theorem p_byTrade (h : IH m c g l) (hw : w ≤ 24) (h9 : m.1 9 32 = nI w) {out : Int32} (ho : m.1 9 38 = out) {i : Nat} (hi : i < 12) (hd : ∀ i, i < w → ¬ m.1 86 i < 0) {C : Nat} (hC : C ≤ c) {d : Int32} (hD : d < 1000) : ∃ F : Nat → Int32, sX9_byTrade (nI i) (nI C) d m = some (trS m w (wV m w i out) i d out C l, up1 m 93 F) := by
  have hc := h.cle
  have hl := h.lle
  obtain ⟨F, e1, e2⟩ := l_byT3 h hw h9 ho hi hd hC d C 0 5000 (by omega) (by omega) (m.1 93) (fun x hx => absurd hx (Nat.not_lt_zero x))
  rw [up93_id] at e1
  refine ⟨F, ?_⟩
  unfold sX9_byTrade
  exact e1.trans (l_byT100 h hw h9 ho hi hd hC hD e2 l 0 5000 (by omega) (by omega))
end TR
