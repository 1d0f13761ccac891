/-! what being bound rests on, and nothing else -/
def sB (m μ : pMem) : Prop := μ.1 66 = m.1 66 ∧ μ.1 67 = m.1 67 ∧ μ.1 68 = m.1 68 ∧ μ.1 69 = m.1 69 ∧ μ.1 70 = m.1 70 ∧ μ.1 71 = m.1 71 ∧ μ.1 74 = m.1 74 ∧ μ.1 75 = m.1 75 ∧ μ.1 78 = m.1 78 ∧ μ.1 79 = m.1 79 ∧ μ.1 80 = m.1 80 ∧ μ.1 82 = m.1 82 ∧ μ.1 83 = m.1 83 ∧ μ.1 84 = m.1 84 ∧ μ.1 85 = m.1 85 ∧ μ.1 86 = m.1 86 ∧ μ.1 87 = m.1 87 ∧ μ.1 88 = m.1 88 ∧ μ.1 89 = m.1 89 ∧ μ.1 90 = m.1 90 ∧ μ.1 91 = m.1 91 ∧ μ.1 92 = m.1 92
theorem sB.c66 {m μ : pMem} (h : sB m μ) : μ.1 66 = m.1 66 := h.1
theorem sB.c67 {m μ : pMem} (h : sB m μ) : μ.1 67 = m.1 67 := h.2.1
theorem sB.c68 {m μ : pMem} (h : sB m μ) : μ.1 68 = m.1 68 := h.2.2.1
theorem sB.c69 {m μ : pMem} (h : sB m μ) : μ.1 69 = m.1 69 := h.2.2.2.1
theorem sB.c70 {m μ : pMem} (h : sB m μ) : μ.1 70 = m.1 70 := h.2.2.2.2.1
theorem sB.c71 {m μ : pMem} (h : sB m μ) : μ.1 71 = m.1 71 := h.2.2.2.2.2.1
theorem sB.c74 {m μ : pMem} (h : sB m μ) : μ.1 74 = m.1 74 := h.2.2.2.2.2.2.1
theorem sB.c75 {m μ : pMem} (h : sB m μ) : μ.1 75 = m.1 75 := h.2.2.2.2.2.2.2.1
theorem sB.c78 {m μ : pMem} (h : sB m μ) : μ.1 78 = m.1 78 := h.2.2.2.2.2.2.2.2.1
theorem sB.c79 {m μ : pMem} (h : sB m μ) : μ.1 79 = m.1 79 := h.2.2.2.2.2.2.2.2.2.1
theorem sB.c80 {m μ : pMem} (h : sB m μ) : μ.1 80 = m.1 80 := h.2.2.2.2.2.2.2.2.2.2.1
theorem sB.c82 {m μ : pMem} (h : sB m μ) : μ.1 82 = m.1 82 := h.2.2.2.2.2.2.2.2.2.2.2.1
theorem sB.c83 {m μ : pMem} (h : sB m μ) : μ.1 83 = m.1 83 := h.2.2.2.2.2.2.2.2.2.2.2.2.1
theorem sB.c84 {m μ : pMem} (h : sB m μ) : μ.1 84 = m.1 84 := h.2.2.2.2.2.2.2.2.2.2.2.2.2.1
theorem sB.c85 {m μ : pMem} (h : sB m μ) : μ.1 85 = m.1 85 := h.2.2.2.2.2.2.2.2.2.2.2.2.2.2.1
theorem sB.c86 {m μ : pMem} (h : sB m μ) : μ.1 86 = m.1 86 := h.2.2.2.2.2.2.2.2.2.2.2.2.2.2.2.1
theorem sB.c87 {m μ : pMem} (h : sB m μ) : μ.1 87 = m.1 87 := h.2.2.2.2.2.2.2.2.2.2.2.2.2.2.2.2.1
theorem sB.c88 {m μ : pMem} (h : sB m μ) : μ.1 88 = m.1 88 := h.2.2.2.2.2.2.2.2.2.2.2.2.2.2.2.2.2.1
theorem sB.c89 {m μ : pMem} (h : sB m μ) : μ.1 89 = m.1 89 := h.2.2.2.2.2.2.2.2.2.2.2.2.2.2.2.2.2.2.1
theorem sB.c90 {m μ : pMem} (h : sB m μ) : μ.1 90 = m.1 90 := h.2.2.2.2.2.2.2.2.2.2.2.2.2.2.2.2.2.2.2.1
theorem sB.c91 {m μ : pMem} (h : sB m μ) : μ.1 91 = m.1 91 := h.2.2.2.2.2.2.2.2.2.2.2.2.2.2.2.2.2.2.2.2.1
theorem sB.c92 {m μ : pMem} (h : sB m μ) : μ.1 92 = m.1 92 := h.2.2.2.2.2.2.2.2.2.2.2.2.2.2.2.2.2.2.2.2.2
theorem if_cg {α : Type} {p q : Prop} [Decidable p] [Decidable q] {x y : α} (h : p ↔ q) : (if p then x else y) = (if q then x else y) := by
  by_cases z : p
  · rw [if_pos z, if_pos (h.mp z)]
  · rw [if_neg z, if_neg (fun w => z (h.mpr w))]
section SB
variable {m μ : pMem}
theorem PW_c (s : sB m μ) (p q t d out : Int32) : PW μ p q t d out = PW m p q t d out := by
  funext i
  unfold PW
  rw [s.c84, s.c85, s.c86, s.c87]
theorem FY_c (s : sB m μ) (p q out : Int32) : FY μ p q out = FY m p q out := by
  funext i
  unfold FY
  rw [s.c84, s.c85, s.c87, s.c88]
theorem PV_c (s : sB m μ) (t x d : Int32) : PV μ t x d = PV m t x d := by
  funext i
  unfold PV
  rw [s.c89, s.c90, s.c91]
theorem vS_c (s : sB m μ) (v : Nat) (x d : Int32) : ∀ n, vS μ v x d n = vS m v x d n
  | 0 => rfl
  | n + 1 => by rw [vS_s, vS_s, vS_c s v x d n, PV_c s, s.c91, s.c92]
theorem sdB_c (s : sB m μ) (q : Int32) : ∀ n, sdB μ q n = sdB m q n
  | 0 => rfl
  | n + 1 => by rw [sdB_s, sdB_s, sdB_c s q n, s.c68, s.c70]
theorem cmB_c (s : sB m μ) (j q : Nat) : cmB μ j q = cmB m j q := by
  unfold cmB
  rw [s.c68]
theorem wL_c (s : sB m μ) (w : Nat) (p : Int32) (Q : Nat) (d out : Int32) : wL μ w p Q d out ↔ wL m w p Q d out := by
  unfold wL wR
  rw [PW_c s, PW_c s, FY_c s, s.c67, s.c78, s.c86, s.c88]
theorem hands_c (s : sB m μ) (w : Nat) (W : Nat → Int32) (p : Int32) (q : Nat) (D out : Int32) : hands μ w W p q D out = hands m w W p q D out := by
  funext i
  unfold hands
  have e := wL_c s w p q D out
  exact decide_eq_decide.mpr (and_congr Iff.rfl (or_congr (by rw [s.c68, s.c70, s.c78]) (and_congr (by rw [cmB_c s]) e)))
theorem bnB_c (s : sB m μ) (w : Nat) (W : Nat → Int32) (i q : Nat) (D out : Int32) (J : Nat) (ahead : Int32) : bnB μ w W i q D out J ahead ↔ bnB m w W i q D out J ahead := by
  unfold bnB
  rw [hands_c s, s.c80, s.c83]
theorem sbj_c (s : sB m μ) (n : Nat) : sbj μ n = sbj m n := by
  unfold sbj
  rw [s.c68, s.c70, s.c71]
theorem wF_c (s : sB m μ) (w i : Nat) (out : Int32) : ∀ n, wF μ w i out n = wF m w i out n
  | 0 => rfl
  | n + 1 => by
    rw [wF_s, wF_s, wF_c s w i out n, s.c68, s.c69, sbj_c s]
    congr 1
    exact bI_congr (and_congr Iff.rfl (bnB_c s w _ i _ _ out n _))
theorem wV_c (s : sB m μ) (w i : Nat) (out : Int32) : wV μ w i out = wV m w i out := by
  funext x
  unfold wV
  rw [wF_c s]
theorem trS_c (s : sB m μ) (w : Nat) (W : Nat → Int32) (i : Nat) (d out : Int32) (C : Nat) : ∀ q, trS μ w W i d out C q = trS m w W i d out C q
  | 0 => rfl
  | q + 1 => by
    rw [trS_s, trS_s, trS_c s w W i d out C q, s.c75]
    congr 1
    exact if_cg (and_congr Iff.rfl (bnB_c s w W i q d out C _))
theorem rkC_c (s : sB m μ) (v C i : Nat) (d : Int32) (q : Nat) : rkC μ v C i d q = rkC m v C i d q := by
  unfold rkC
  rw [s.c66, s.c80, s.c75, sdB_c s, vS_c s]
theorem rkF_c (s : sB m μ) (v C i : Nat) (d : Int32) : ∀ j q, rkF μ v C i d j q = rkF m v C i d j q
  | 0, _ => by
    show nv (μ.1 80 i) = nv (m.1 80 i)
    rw [s.c80]
  | j + 1, q => by rw [rkF_s, rkF_s, rkC_c s, rkF_c s v C i d j (q + 1)]
/-- WHO IS BOUND -/
def bS (m : pMem) (c l w v i : Nat) (d out : Int32) : Int32 :=
  if d < m.1 83 i then 0
  else if m.1 79 i = 0 then (1 : Int32) <<< (m.1 74 (8 * IHc m c d + nv (m.1 82 i)) &&& 31)
  else if m.1 79 i = 1 then (if bt (m.1 75 (IHc m c d)) (rkF m v (IHc m c d) i d l 0) = true then (1 : Int32) <<< (nI (rkF m v (IHc m c d) i d l 0) &&& 31) else 0)
  else trS m w (wV m w i out) i d out (IHc m c d) l
theorem bS_c (s : sB m μ) (c l w v i : Nat) (d out : Int32) : bS μ c l w v i d out = bS m c l w v i d out := by
  unfold bS IHc
  rw [s.c69, s.c74, s.c75, s.c79, s.c82, s.c83, rkF_c s, wV_c s, trS_c s]
end SB
/-- all but what is written only to be read at once -/
def fr (m μ : pMem) : Prop := (∀ k, 10 ≤ k → k ≠ 18 → k ≠ 48 → k ≠ 54 → k ≠ 77 → k ≠ 93 → k ≠ 94 → k ≠ 105 → μ.1 k = m.1 k) ∧ (∀ k, (k < 4 ∨ k = 5 ∨ k = 7 ∨ k = 8) → μ.1 k = m.1 k) ∧ (∀ j, j ≠ 10 → j ≠ 11 → μ.1 4 j = m.1 4 j) ∧ (∀ j, j < 3 → μ.1 6 j = m.1 6 j) ∧ (∀ j, (j < 17 ∨ 23 < j) → j ≠ 38 → μ.1 9 j = m.1 9 j) ∧ μ.2 10 = m.2 10
theorem fr.rf (m : pMem) : fr m m := ⟨fun _ _ _ _ _ _ _ _ _ => rfl, fun _ _ => rfl, fun _ _ _ => rfl, fun _ _ => rfl, fun _ _ _ => rfl, rfl⟩
theorem fr.tr {m μ ν : pMem} (a : fr m μ) (b : fr μ ν) : fr m ν := ⟨fun k h1 h2 h3 h4 h5 h6 h7 h8 => (b.1 k h1 h2 h3 h4 h5 h6 h7 h8).trans (a.1 k h1 h2 h3 h4 h5 h6 h7 h8), fun k h => (b.2.1 k h).trans (a.2.1 k h), fun j h1 h2 => (b.2.2.1 j h1 h2).trans (a.2.2.1 j h1 h2), fun j h => (b.2.2.2.1 j h).trans (a.2.2.2.1 j h), fun j h1 h2 => (b.2.2.2.2.1 j h1 h2).trans (a.2.2.2.2.1 j h1 h2), b.2.2.2.2.2.trans a.2.2.2.2.2⟩
theorem fr.tM (m : pMem) (a b : Int32) : fr m (tM m a b) := ⟨fun k h _ _ _ _ _ _ _ => tM_k m a b (by omega), fun k h => tM_k m a b (by omega), fun j h1 h2 => by rw [tM_4, if_neg h1, if_neg h2], fun _ _ => rfl, fun _ _ _ => rfl, rfl⟩
theorem fr.up (m : pMem) {k : Nat} (F : Nat → Int32) (hk : k = 18 ∨ k = 48 ∨ k = 54 ∨ k = 77 ∨ k = 93 ∨ k = 94 ∨ k = 105) : fr m (up1 m k F) := by
  have e : ∀ q, q ≠ k → (up1 m k F).1 q = m.1 q := fun q h => by rw [up1_1, if_neg h]
  exact ⟨fun q h1 h2 h3 h4 h5 h6 h7 h8 => e q (by omega), fun q h => e q (by omega), fun j _ _ => by rw [e 4 (by omega)], fun j _ => by rw [e 6 (by omega)], fun j _ _ => by rw [e 9 (by omega)], rfl⟩
theorem fr.st (m : pMem) {k : Nat} (j : Nat) (v : Int32) (hk : k = 18 ∨ k = 48 ∨ k = 54 ∨ k = 77 ∨ k = 93 ∨ k = 94 ∨ k = 105) : fr m (st1 m k j v) := fr.up m _ hk
theorem fr.s9 (m : pMem) {j : Nat} (v : Int32) (hj : (17 ≤ j ∧ j ≤ 23) ∨ j = 38) : fr m (st1 m 9 j v) := by
  have e : ∀ q, q ≠ 9 → (st1 m 9 j v).1 q = m.1 q := fun q h => by rw [st1_1, if_neg h]
  exact ⟨fun q h1 h2 h3 h4 h5 h6 h7 h8 => e q (by omega), fun q h => e q (by omega), fun j _ _ => by rw [e 4 (by omega)], fun j _ => by rw [e 6 (by omega)], fun x h1 h2 => by rw [st1_1, if_pos rfl, upd_ne _ _ (by omega)], rfl⟩
theorem fr.s6 (m : pMem) {j : Nat} (v : Int32) (hj : 3 ≤ j ∧ j ≤ 5) : fr m (st1 m 6 j v) := by
  have e : ∀ q, q ≠ 6 → (st1 m 6 j v).1 q = m.1 q := fun q h => by rw [st1_1, if_neg h]
  exact ⟨fun q h1 h2 h3 h4 h5 h6 h7 h8 => e q (by omega), fun q h => e q (by omega), fun j _ _ => by rw [e 4 (by omega)], fun x h => by rw [st1_1, if_pos rfl, upd_ne _ _ (by omega)], fun j _ _ => by rw [e 9 (by omega)], rfl⟩
theorem fr.l9 (m : pMem) (j : Nat) (v : Int64) : fr m (st2 m 9 j v) := ⟨fun _ _ _ _ _ _ _ _ _ => rfl, fun _ _ => rfl, fun _ _ _ => rfl, fun _ _ => rfl, fun _ _ _ => rfl, by rw [st2_2, if_neg (by omega)]⟩
section FR
variable {m μ : pMem}
theorem fr.toB (f : fr m μ) : sB m μ := ⟨f.1 66 (by omega) (by omega) (by omega) (by omega) (by omega) (by omega) (by omega) (by omega), f.1 67 (by omega) (by omega) (by omega) (by omega) (by omega) (by omega) (by omega) (by omega), f.1 68 (by omega) (by omega) (by omega) (by omega) (by omega) (by omega) (by omega) (by omega), f.1 69 (by omega) (by omega) (by omega) (by omega) (by omega) (by omega) (by omega) (by omega), f.1 70 (by omega) (by omega) (by omega) (by omega) (by omega) (by omega) (by omega) (by omega), f.1 71 (by omega) (by omega) (by omega) (by omega) (by omega) (by omega) (by omega) (by omega), f.1 74 (by omega) (by omega) (by omega) (by omega) (by omega) (by omega) (by omega) (by omega), f.1 75 (by omega) (by omega) (by omega) (by omega) (by omega) (by omega) (by omega) (by omega), f.1 78 (by omega) (by omega) (by omega) (by omega) (by omega) (by omega) (by omega) (by omega), f.1 79 (by omega) (by omega) (by omega) (by omega) (by omega) (by omega) (by omega) (by omega), f.1 80 (by omega) (by omega) (by omega) (by omega) (by omega) (by omega) (by omega) (by omega), f.1 82 (by omega) (by omega) (by omega) (by omega) (by omega) (by omega) (by omega) (by omega), f.1 83 (by omega) (by omega) (by omega) (by omega) (by omega) (by omega) (by omega) (by omega), f.1 84 (by omega) (by omega) (by omega) (by omega) (by omega) (by omega) (by omega) (by omega), f.1 85 (by omega) (by omega) (by omega) (by omega) (by omega) (by omega) (by omega) (by omega), f.1 86 (by omega) (by omega) (by omega) (by omega) (by omega) (by omega) (by omega) (by omega), f.1 87 (by omega) (by omega) (by omega) (by omega) (by omega) (by omega) (by omega) (by omega), f.1 88 (by omega) (by omega) (by omega) (by omega) (by omega) (by omega) (by omega) (by omega), f.1 89 (by omega) (by omega) (by omega) (by omega) (by omega) (by omega) (by omega) (by omega), f.1 90 (by omega) (by omega) (by omega) (by omega) (by omega) (by omega) (by omega) (by omega), f.1 91 (by omega) (by omega) (by omega) (by omega) (by omega) (by omega) (by omega) (by omega), f.1 92 (by omega) (by omega) (by omega) (by omega) (by omega) (by omega) (by omega) (by omega)⟩
theorem fr.H (f : fr m μ) {c g l : Nat} (h : IH m c g l) : IH μ c g l := h.congr ⟨congrFun (f.2.1 3 (by omega)) 2, congrFun (f.2.1 3 (by omega)) 6, congrFun (f.2.1 3 (by omega)) 12, f.2.2.2.2.1 0 (by omega) (by omega), f.2.2.2.2.1 3 (by omega) (by omega), f.2.2.2.2.1 6 (by omega) (by omega), f.1 19 (by omega) (by omega) (by omega) (by omega) (by omega) (by omega) (by omega) (by omega), f.1 20 (by omega) (by omega) (by omega) (by omega) (by omega) (by omega) (by omega) (by omega), f.1 21 (by omega) (by omega) (by omega) (by omega) (by omega) (by omega) (by omega) (by omega), f.1 22 (by omega) (by omega) (by omega) (by omega) (by omega) (by omega) (by omega) (by omega), f.1 23 (by omega) (by omega) (by omega) (by omega) (by omega) (by omega) (by omega) (by omega), f.1 24 (by omega) (by omega) (by omega) (by omega) (by omega) (by omega) (by omega) (by omega), f.1 25 (by omega) (by omega) (by omega) (by omega) (by omega) (by omega) (by omega) (by omega), f.1 26 (by omega) (by omega) (by omega) (by omega) (by omega) (by omega) (by omega) (by omega), f.1 27 (by omega) (by omega) (by omega) (by omega) (by omega) (by omega) (by omega) (by omega), f.1 28 (by omega) (by omega) (by omega) (by omega) (by omega) (by omega) (by omega) (by omega), f.1 43 (by omega) (by omega) (by omega) (by omega) (by omega) (by omega) (by omega) (by omega), f.1 64 (by omega) (by omega) (by omega) (by omega) (by omega) (by omega) (by omega) (by omega), f.1 65 (by omega) (by omega) (by omega) (by omega) (by omega) (by omega) (by omega) (by omega), f.1 66 (by omega) (by omega) (by omega) (by omega) (by omega) (by omega) (by omega) (by omega), f.1 67 (by omega) (by omega) (by omega) (by omega) (by omega) (by omega) (by omega) (by omega), f.1 68 (by omega) (by omega) (by omega) (by omega) (by omega) (by omega) (by omega) (by omega), f.1 69 (by omega) (by omega) (by omega) (by omega) (by omega) (by omega) (by omega) (by omega), f.1 70 (by omega) (by omega) (by omega) (by omega) (by omega) (by omega) (by omega) (by omega), f.1 71 (by omega) (by omega) (by omega) (by omega) (by omega) (by omega) (by omega) (by omega), f.1 72 (by omega) (by omega) (by omega) (by omega) (by omega) (by omega) (by omega) (by omega), f.1 73 (by omega) (by omega) (by omega) (by omega) (by omega) (by omega) (by omega) (by omega), f.1 74 (by omega) (by omega) (by omega) (by omega) (by omega) (by omega) (by omega) (by omega), f.1 75 (by omega) (by omega) (by omega) (by omega) (by omega) (by omega) (by omega) (by omega), f.1 106 (by omega) (by omega) (by omega) (by omega) (by omega) (by omega) (by omega) (by omega), f.1 107 (by omega) (by omega) (by omega) (by omega) (by omega) (by omega) (by omega) (by omega), fun j hj => f.1 (30 + j) (by omega) (by omega) (by omega) (by omega) (by omega) (by omega) (by omega) (by omega)⟩
theorem fr.T (f : fr m μ) {b : Nat} (h : IT m b) : IT μ b := h.congr ⟨f.2.2.2.1 1 (by omega), f.2.2.2.2.1 15 (by omega) (by omega), f.1 52 (by omega) (by omega) (by omega) (by omega) (by omega) (by omega) (by omega) (by omega), f.1 53 (by omega) (by omega) (by omega) (by omega) (by omega) (by omega) (by omega) (by omega), f.1 76 (by omega) (by omega) (by omega) (by omega) (by omega) (by omega) (by omega) (by omega), f.1 78 (by omega) (by omega) (by omega) (by omega) (by omega) (by omega) (by omega) (by omega)⟩
theorem fr.Q (f : fr m μ) {c g l p w v : Nat} (h : IQ m c g l p w v) : IQ μ c g l p w v := h.congr ⟨f.2.2.1 8 (by omega) (by omega), f.2.2.1 9 (by omega) (by omega), congrFun (f.2.1 7 (by omega)) 4, congrFun (f.2.1 8 (by omega)) 5, f.2.2.2.2.1 26 (by omega) (by omega), f.2.2.2.2.1 32 (by omega) (by omega), f.2.2.2.2.1 39 (by omega) (by omega), f.1 44 (by omega) (by omega) (by omega) (by omega) (by omega) (by omega) (by omega) (by omega), f.1 45 (by omega) (by omega) (by omega) (by omega) (by omega) (by omega) (by omega) (by omega), f.1 46 (by omega) (by omega) (by omega) (by omega) (by omega) (by omega) (by omega) (by omega), f.1 47 (by omega) (by omega) (by omega) (by omega) (by omega) (by omega) (by omega) (by omega), f.1 55 (by omega) (by omega) (by omega) (by omega) (by omega) (by omega) (by omega) (by omega), f.1 56 (by omega) (by omega) (by omega) (by omega) (by omega) (by omega) (by omega) (by omega), f.1 57 (by omega) (by omega) (by omega) (by omega) (by omega) (by omega) (by omega) (by omega), f.1 58 (by omega) (by omega) (by omega) (by omega) (by omega) (by omega) (by omega) (by omega), f.1 59 (by omega) (by omega) (by omega) (by omega) (by omega) (by omega) (by omega) (by omega), f.1 60 (by omega) (by omega) (by omega) (by omega) (by omega) (by omega) (by omega) (by omega), f.1 61 (by omega) (by omega) (by omega) (by omega) (by omega) (by omega) (by omega) (by omega), f.1 62 (by omega) (by omega) (by omega) (by omega) (by omega) (by omega) (by omega) (by omega), f.1 63 (by omega) (by omega) (by omega) (by omega) (by omega) (by omega) (by omega) (by omega), f.1 69 (by omega) (by omega) (by omega) (by omega) (by omega) (by omega) (by omega) (by omega), f.1 79 (by omega) (by omega) (by omega) (by omega) (by omega) (by omega) (by omega) (by omega), f.1 80 (by omega) (by omega) (by omega) (by omega) (by omega) (by omega) (by omega) (by omega), f.1 82 (by omega) (by omega) (by omega) (by omega) (by omega) (by omega) (by omega) (by omega), f.1 83 (by omega) (by omega) (by omega) (by omega) (by omega) (by omega) (by omega) (by omega), f.1 84 (by omega) (by omega) (by omega) (by omega) (by omega) (by omega) (by omega) (by omega), f.1 85 (by omega) (by omega) (by omega) (by omega) (by omega) (by omega) (by omega) (by omega), f.1 86 (by omega) (by omega) (by omega) (by omega) (by omega) (by omega) (by omega) (by omega), f.1 87 (by omega) (by omega) (by omega) (by omega) (by omega) (by omega) (by omega) (by omega), f.1 88 (by omega) (by omega) (by omega) (by omega) (by omega) (by omega) (by omega) (by omega), f.1 89 (by omega) (by omega) (by omega) (by omega) (by omega) (by omega) (by omega) (by omega), f.1 90 (by omega) (by omega) (by omega) (by omega) (by omega) (by omega) (by omega) (by omega), f.1 91 (by omega) (by omega) (by omega) (by omega) (by omega) (by omega) (by omega) (by omega), f.1 92 (by omega) (by omega) (by omega) (by omega) (by omega) (by omega) (by omega) (by omega), f.2.2.2.2.2⟩
theorem fr.G (f : fr m μ) {g l d t n : Nat} (h : IG m g l d t n) : IG μ g l d t n := h.congr ⟨congrFun (f.2.1 2 (by omega)) 5, congrFun (f.2.1 2 (by omega)) 6, congrFun (f.2.1 2 (by omega)) 10, congrFun (f.2.1 5 (by omega)) 3, f.2.2.2.2.1 46 (by omega) (by omega), f.2.2.2.2.1 51 (by omega) (by omega), f.2.2.2.2.1 55 (by omega) (by omega), f.1 11 (by omega) (by omega) (by omega) (by omega) (by omega) (by omega) (by omega) (by omega), f.1 12 (by omega) (by omega) (by omega) (by omega) (by omega) (by omega) (by omega) (by omega), f.1 13 (by omega) (by omega) (by omega) (by omega) (by omega) (by omega) (by omega) (by omega), f.1 14 (by omega) (by omega) (by omega) (by omega) (by omega) (by omega) (by omega) (by omega), f.1 15 (by omega) (by omega) (by omega) (by omega) (by omega) (by omega) (by omega) (by omega), f.1 16 (by omega) (by omega) (by omega) (by omega) (by omega) (by omega) (by omega) (by omega), f.1 17 (by omega) (by omega) (by omega) (by omega) (by omega) (by omega) (by omega) (by omega), f.1 49 (by omega) (by omega) (by omega) (by omega) (by omega) (by omega) (by omega) (by omega), f.1 50 (by omega) (by omega) (by omega) (by omega) (by omega) (by omega) (by omega) (by omega), f.1 51 (by omega) (by omega) (by omega) (by omega) (by omega) (by omega) (by omega) (by omega), f.1 95 (by omega) (by omega) (by omega) (by omega) (by omega) (by omega) (by omega) (by omega), f.1 96 (by omega) (by omega) (by omega) (by omega) (by omega) (by omega) (by omega) (by omega), f.1 97 (by omega) (by omega) (by omega) (by omega) (by omega) (by omega) (by omega) (by omega), f.1 98 (by omega) (by omega) (by omega) (by omega) (by omega) (by omega) (by omega) (by omega), f.1 99 (by omega) (by omega) (by omega) (by omega) (by omega) (by omega) (by omega) (by omega), f.1 100 (by omega) (by omega) (by omega) (by omega) (by omega) (by omega) (by omega) (by omega), f.1 101 (by omega) (by omega) (by omega) (by omega) (by omega) (by omega) (by omega) (by omega), f.1 102 (by omega) (by omega) (by omega) (by omega) (by omega) (by omega) (by omega) (by omega), f.1 103 (by omega) (by omega) (by omega) (by omega) (by omega) (by omega) (by omega) (by omega), f.1 104 (by omega) (by omega) (by omega) (by omega) (by omega) (by omega) (by omega) (by omega)⟩
theorem inv_fr (I : Inv m) (f : fr m μ) (e : μ.1 9 38 = 0) : Inv μ := by
  obtain ⟨c, g, l, p, w, v, d, t, n, b, h, hT, hP, hG⟩ := I
  exact ⟨c, g, l, p, w, v, d, t, n, b, f.H h, f.T hT, (f.Q hP.toQ).toP e, f.G hG⟩
end FR
