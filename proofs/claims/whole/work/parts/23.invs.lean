/-! THE INVARIANT: what both systems hold between calls -/
/-- lands that have come ahead of change j -/
def lnF (K : Nat → Int32) : Nat → Nat
  | 0 => 1
  | j + 1 => lnF K j + (if K j = 0 then 1 else if K j = 1 then 2 else 0)
theorem lnF_s (K : Nat → Int32) (j : Nat) : lnF K (j + 1) = lnF K j + (if K j = 0 then 1 else if K j = 1 then 2 else 0) := rfl
/-- who has a ground behind a change -/
def owS (k a b s n : Int32) (g : Nat) (w : Int32) : Int32 :=
  if k = 0 ∨ k = 1 then (if w = a then (if bt s g = true then n else if k = 0 then a else n + 1) else w)
  else if k = 2 then (if w = b then a else w) else if k = 3 then (if w = a ∧ bt s g = true then b else w) else w
/-- which lands are there behind a change -/
def thS (k a b n t : Int32) : Int32 :=
  if k = 0 then t ||| ((1 : Int32) <<< (n &&& 31))
  else if k = 1 then (t &&& (((1 : Int32) <<< (a &&& 31)) ^^^ (-1 : Int32))) ||| ((3 : Int32) <<< (n &&& 31))
  else if k = 2 then t &&& (((1 : Int32) <<< (b &&& 31)) ^^^ (-1 : Int32)) else t
/-- a land is no more behind change j -/
def ends (m : pMem) (j q : Nat) : Prop := (m.1 68 j = 1 ∧ m.1 70 j = nI q) ∨ (m.1 68 j = 2 ∧ m.1 71 j = nI q)
/-- the greatest of n numbers, or -1 -/
def mxF (f : Nat → Int32) : Nat → Int32
  | 0 => -1
  | n + 1 => if mxF f n < f n then f n else mxF f n
/-- a day is marked -/
def mkd (m : pMem) (d : Nat) : Prop := (m.2 10 (d / 64)).toBitVec.getLsbD (d % 64) = true
def IH (m : pMem) (c g l : Nat) : Prop :=
  (m.1 9 6 = nI c) ∧
  (m.1 3 12 = nI c) ∧
  (c ≤ 12) ∧
  (m.1 9 0 = nI g) ∧
  (m.1 3 2 = nI g) ∧
  (g ≤ 8) ∧
  (m.1 9 3 = nI l) ∧
  (m.1 3 6 = nI l) ∧
  (l ≤ 10) ∧
  (l = lnF (m.1 68) c) ∧
  (m.1 19 = m.1 64) ∧
  (m.1 20 = m.1 65) ∧
  (m.1 21 = m.1 66) ∧
  (m.1 22 = m.1 67) ∧
  (m.1 24 = m.1 68) ∧
  (m.1 25 = m.1 69) ∧
  (m.1 26 = m.1 70) ∧
  (m.1 27 = m.1 71) ∧
  (m.1 28 = m.1 73) ∧
  (m.1 43 = m.1 75) ∧
  (∀ i, i < g → ∃ k, 1 ≤ k ∧ k ≤ 999 ∧ m.1 64 i = nI k) ∧
  (∀ i, i < g → ∃ k, k ≤ 999 ∧ m.1 65 i = nI k) ∧
  (∀ j, j < c → ∃ k, k ≤ 4 ∧ m.1 68 j = nI k) ∧
  (∀ j, j < c → ∃ k, k ≤ 999 ∧ m.1 69 j = nI k) ∧
  (srt (m.1 69) c) ∧
  (∀ j, j < c → ∃ a, a < lnF (m.1 68) j ∧ m.1 70 j = nI a ∧ bt (m.1 75 j) a = true) ∧
  (∀ j, j < c → (m.1 68 j = 2 ∨ m.1 68 j = 3) → ∃ b, b < lnF (m.1 68) j ∧ m.1 71 j = nI b ∧ bt (m.1 75 j) b = true ∧ m.1 71 j ≠ m.1 70 j) ∧
  (∀ j, j < c → m.1 73 j = nI (lnF (m.1 68) j)) ∧
  (∀ j, j < c → (m.1 68 j = 0 ∨ m.1 68 j = 1 ∨ m.1 68 j = 3) → m.1 72 j ≠ 0 ∧ (m.1 72 j &&& (gof (m.1 74) (m.1 70 j) j g ^^^ (-1 : Int32))) = 0 ∧ m.1 72 j ≠ gof (m.1 74) (m.1 70 j) j g) ∧
  (∀ i, i < 8 → m.1 74 i = 0) ∧
  (∀ j, j < c → ∀ i, i < 8 → m.1 74 (8 * (j + 1) + i) = owS (m.1 68 j) (m.1 70 j) (m.1 71 j) (m.1 72 j) (m.1 73 j) i (m.1 74 (8 * j + i))) ∧
  (m.1 75 0 = 1) ∧
  (∀ j, j < c → m.1 75 (j + 1) = thS (m.1 68 j) (m.1 70 j) (m.1 71 j) (m.1 73 j) (m.1 75 j)) ∧
  (∀ j, j ≤ c → ∀ q, q < 10 → m.1 (30 + j) q = gof (m.1 74) (nI q) j g) ∧
  (m.1 66 0 = -1) ∧
  (m.1 67 0 = 0) ∧
  (∀ j, j < c → (m.1 68 j = 0 ∨ m.1 68 j = 1) → m.1 66 (lnF (m.1 68) j) = m.1 70 j ∧ m.1 67 (lnF (m.1 68) j) = m.1 69 j) ∧
  (∀ j, j < c → m.1 68 j = 1 → m.1 66 (lnF (m.1 68) j + 1) = m.1 70 j ∧ m.1 67 (lnF (m.1 68) j + 1) = m.1 69 j) ∧
  (m.1 106 = m.1 72) ∧
  (∀ j, j < c → m.1 107 j = gof (m.1 74) (m.1 70 j) j g &&& (m.1 72 j ^^^ (-1 : Int32))) ∧
  (∀ q, q < l → (m.1 23 q = -1 ∧ ∀ j, j < c → ¬ ends m j q) ∨ (∃ j, j < c ∧ m.1 23 q = nI j ∧ ends m j q))
theorem IH.c9 {m : pMem} {c g l : Nat} (h : IH m c g l) : m.1 9 6 = nI c := h.1
theorem IH.c3 {m : pMem} {c g l : Nat} (h : IH m c g l) : m.1 3 12 = nI c := h.2.1
theorem IH.cle {m : pMem} {c g l : Nat} (h : IH m c g l) : c ≤ 12 := h.2.2.1
theorem IH.g9 {m : pMem} {c g l : Nat} (h : IH m c g l) : m.1 9 0 = nI g := h.2.2.2.1
theorem IH.g3 {m : pMem} {c g l : Nat} (h : IH m c g l) : m.1 3 2 = nI g := h.2.2.2.2.1
theorem IH.gle {m : pMem} {c g l : Nat} (h : IH m c g l) : g ≤ 8 := h.2.2.2.2.2.1
theorem IH.l9 {m : pMem} {c g l : Nat} (h : IH m c g l) : m.1 9 3 = nI l := h.2.2.2.2.2.2.1
theorem IH.l3 {m : pMem} {c g l : Nat} (h : IH m c g l) : m.1 3 6 = nI l := h.2.2.2.2.2.2.2.1
theorem IH.lle {m : pMem} {c g l : Nat} (h : IH m c g l) : l ≤ 10 := h.2.2.2.2.2.2.2.2.1
theorem IH.ll {m : pMem} {c g l : Nat} (h : IH m c g l) : l = lnF (m.1 68) c := h.2.2.2.2.2.2.2.2.2.1
theorem IH.heads {m : pMem} {c g l : Nat} (h : IH m c g l) : m.1 19 = m.1 64 := h.2.2.2.2.2.2.2.2.2.2.1
theorem IH.worth {m : pMem} {c g l : Nat} (h : IH m c g l) : m.1 20 = m.1 65 := h.2.2.2.2.2.2.2.2.2.2.2.1
theorem IH.par {m : pMem} {c g l : Nat} (h : IH m c g l) : m.1 21 = m.1 66 := h.2.2.2.2.2.2.2.2.2.2.2.2.1
theorem IH.cam {m : pMem} {c g l : Nat} (h : IH m c g l) : m.1 22 = m.1 67 := h.2.2.2.2.2.2.2.2.2.2.2.2.2.1
theorem IH.knd {m : pMem} {c g l : Nat} (h : IH m c g l) : m.1 24 = m.1 68 := h.2.2.2.2.2.2.2.2.2.2.2.2.2.2.1
theorem IH.day {m : pMem} {c g l : Nat} (h : IH m c g l) : m.1 25 = m.1 69 := h.2.2.2.2.2.2.2.2.2.2.2.2.2.2.2.1
theorem IH.fst {m : pMem} {c g l : Nat} (h : IH m c g l) : m.1 26 = m.1 70 := h.2.2.2.2.2.2.2.2.2.2.2.2.2.2.2.2.1
theorem IH.snd {m : pMem} {c g l : Nat} (h : IH m c g l) : m.1 27 = m.1 71 := h.2.2.2.2.2.2.2.2.2.2.2.2.2.2.2.2.2.1
theorem IH.frs {m : pMem} {c g l : Nat} (h : IH m c g l) : m.1 28 = m.1 73 := h.2.2.2.2.2.2.2.2.2.2.2.2.2.2.2.2.2.2.1
theorem IH.thr {m : pMem} {c g l : Nat} (h : IH m c g l) : m.1 43 = m.1 75 := h.2.2.2.2.2.2.2.2.2.2.2.2.2.2.2.2.2.2.2.1
theorem IH.hr {m : pMem} {c g l : Nat} (h : IH m c g l) : ∀ i, i < g → ∃ k, 1 ≤ k ∧ k ≤ 999 ∧ m.1 64 i = nI k := h.2.2.2.2.2.2.2.2.2.2.2.2.2.2.2.2.2.2.2.2.1
theorem IH.wr {m : pMem} {c g l : Nat} (h : IH m c g l) : ∀ i, i < g → ∃ k, k ≤ 999 ∧ m.1 65 i = nI k := h.2.2.2.2.2.2.2.2.2.2.2.2.2.2.2.2.2.2.2.2.2.1
theorem IH.kr {m : pMem} {c g l : Nat} (h : IH m c g l) : ∀ j, j < c → ∃ k, k ≤ 4 ∧ m.1 68 j = nI k := h.2.2.2.2.2.2.2.2.2.2.2.2.2.2.2.2.2.2.2.2.2.2.1
theorem IH.dr {m : pMem} {c g l : Nat} (h : IH m c g l) : ∀ j, j < c → ∃ k, k ≤ 999 ∧ m.1 69 j = nI k := h.2.2.2.2.2.2.2.2.2.2.2.2.2.2.2.2.2.2.2.2.2.2.2.1
theorem IH.ds {m : pMem} {c g l : Nat} (h : IH m c g l) : srt (m.1 69) c := h.2.2.2.2.2.2.2.2.2.2.2.2.2.2.2.2.2.2.2.2.2.2.2.2.1
theorem IH.ar {m : pMem} {c g l : Nat} (h : IH m c g l) : ∀ j, j < c → ∃ a, a < lnF (m.1 68) j ∧ m.1 70 j = nI a ∧ bt (m.1 75 j) a = true := h.2.2.2.2.2.2.2.2.2.2.2.2.2.2.2.2.2.2.2.2.2.2.2.2.2.1
theorem IH.br {m : pMem} {c g l : Nat} (h : IH m c g l) : ∀ j, j < c → (m.1 68 j = 2 ∨ m.1 68 j = 3) → ∃ b, b < lnF (m.1 68) j ∧ m.1 71 j = nI b ∧ bt (m.1 75 j) b = true ∧ m.1 71 j ≠ m.1 70 j := h.2.2.2.2.2.2.2.2.2.2.2.2.2.2.2.2.2.2.2.2.2.2.2.2.2.2.1
theorem IH.fr {m : pMem} {c g l : Nat} (h : IH m c g l) : ∀ j, j < c → m.1 73 j = nI (lnF (m.1 68) j) := h.2.2.2.2.2.2.2.2.2.2.2.2.2.2.2.2.2.2.2.2.2.2.2.2.2.2.2.1
theorem IH.sr {m : pMem} {c g l : Nat} (h : IH m c g l) : ∀ j, j < c → (m.1 68 j = 0 ∨ m.1 68 j = 1 ∨ m.1 68 j = 3) → m.1 72 j ≠ 0 ∧ (m.1 72 j &&& (gof (m.1 74) (m.1 70 j) j g ^^^ (-1 : Int32))) = 0 ∧ m.1 72 j ≠ gof (m.1 74) (m.1 70 j) j g := h.2.2.2.2.2.2.2.2.2.2.2.2.2.2.2.2.2.2.2.2.2.2.2.2.2.2.2.2.1
theorem IH.o0 {m : pMem} {c g l : Nat} (h : IH m c g l) : ∀ i, i < 8 → m.1 74 i = 0 := h.2.2.2.2.2.2.2.2.2.2.2.2.2.2.2.2.2.2.2.2.2.2.2.2.2.2.2.2.2.1
theorem IH.os {m : pMem} {c g l : Nat} (h : IH m c g l) : ∀ j, j < c → ∀ i, i < 8 → m.1 74 (8 * (j + 1) + i) = owS (m.1 68 j) (m.1 70 j) (m.1 71 j) (m.1 72 j) (m.1 73 j) i (m.1 74 (8 * j + i)) := h.2.2.2.2.2.2.2.2.2.2.2.2.2.2.2.2.2.2.2.2.2.2.2.2.2.2.2.2.2.2.1
theorem IH.t0 {m : pMem} {c g l : Nat} (h : IH m c g l) : m.1 75 0 = 1 := h.2.2.2.2.2.2.2.2.2.2.2.2.2.2.2.2.2.2.2.2.2.2.2.2.2.2.2.2.2.2.2.1
theorem IH.ts {m : pMem} {c g l : Nat} (h : IH m c g l) : ∀ j, j < c → m.1 75 (j + 1) = thS (m.1 68 j) (m.1 70 j) (m.1 71 j) (m.1 73 j) (m.1 75 j) := h.2.2.2.2.2.2.2.2.2.2.2.2.2.2.2.2.2.2.2.2.2.2.2.2.2.2.2.2.2.2.2.2.1
theorem IH.rows {m : pMem} {c g l : Nat} (h : IH m c g l) : ∀ j, j ≤ c → ∀ q, q < 10 → m.1 (30 + j) q = gof (m.1 74) (nI q) j g := h.2.2.2.2.2.2.2.2.2.2.2.2.2.2.2.2.2.2.2.2.2.2.2.2.2.2.2.2.2.2.2.2.2.1
theorem IH.f0 {m : pMem} {c g l : Nat} (h : IH m c g l) : m.1 66 0 = -1 := h.2.2.2.2.2.2.2.2.2.2.2.2.2.2.2.2.2.2.2.2.2.2.2.2.2.2.2.2.2.2.2.2.2.2.1
theorem IH.cm0 {m : pMem} {c g l : Nat} (h : IH m c g l) : m.1 67 0 = 0 := h.2.2.2.2.2.2.2.2.2.2.2.2.2.2.2.2.2.2.2.2.2.2.2.2.2.2.2.2.2.2.2.2.2.2.2.1
theorem IH.pf {m : pMem} {c g l : Nat} (h : IH m c g l) : ∀ j, j < c → (m.1 68 j = 0 ∨ m.1 68 j = 1) → m.1 66 (lnF (m.1 68) j) = m.1 70 j ∧ m.1 67 (lnF (m.1 68) j) = m.1 69 j := h.2.2.2.2.2.2.2.2.2.2.2.2.2.2.2.2.2.2.2.2.2.2.2.2.2.2.2.2.2.2.2.2.2.2.2.2.1
theorem IH.pf2 {m : pMem} {c g l : Nat} (h : IH m c g l) : ∀ j, j < c → m.1 68 j = 1 → m.1 66 (lnF (m.1 68) j + 1) = m.1 70 j ∧ m.1 67 (lnF (m.1 68) j + 1) = m.1 69 j := h.2.2.2.2.2.2.2.2.2.2.2.2.2.2.2.2.2.2.2.2.2.2.2.2.2.2.2.2.2.2.2.2.2.2.2.2.2.1
theorem IH.sof {m : pMem} {c g l : Nat} (h : IH m c g l) : m.1 106 = m.1 72 := h.2.2.2.2.2.2.2.2.2.2.2.2.2.2.2.2.2.2.2.2.2.2.2.2.2.2.2.2.2.2.2.2.2.2.2.2.2.2.1
theorem IH.soo {m : pMem} {c g l : Nat} (h : IH m c g l) : ∀ j, j < c → m.1 107 j = gof (m.1 74) (m.1 70 j) j g &&& (m.1 72 j ^^^ (-1 : Int32)) := h.2.2.2.2.2.2.2.2.2.2.2.2.2.2.2.2.2.2.2.2.2.2.2.2.2.2.2.2.2.2.2.2.2.2.2.2.2.2.2.1
theorem IH.en {m : pMem} {c g l : Nat} (h : IH m c g l) : ∀ q, q < l → (m.1 23 q = -1 ∧ ∀ j, j < c → ¬ ends m j q) ∨ (∃ j, j < c ∧ m.1 23 q = nI j ∧ ends m j q) := h.2.2.2.2.2.2.2.2.2.2.2.2.2.2.2.2.2.2.2.2.2.2.2.2.2.2.2.2.2.2.2.2.2.2.2.2.2.2.2.2
def IH.same (m m' : pMem) : Prop := m'.1 3 2 = m.1 3 2 ∧ m'.1 3 6 = m.1 3 6 ∧ m'.1 3 12 = m.1 3 12 ∧ m'.1 9 0 = m.1 9 0 ∧ m'.1 9 3 = m.1 9 3 ∧ m'.1 9 6 = m.1 9 6 ∧ m'.1 19 = m.1 19 ∧ m'.1 20 = m.1 20 ∧ m'.1 21 = m.1 21 ∧ m'.1 22 = m.1 22 ∧ m'.1 23 = m.1 23 ∧ m'.1 24 = m.1 24 ∧ m'.1 25 = m.1 25 ∧ m'.1 26 = m.1 26 ∧ m'.1 27 = m.1 27 ∧ m'.1 28 = m.1 28 ∧ m'.1 43 = m.1 43 ∧ m'.1 64 = m.1 64 ∧ m'.1 65 = m.1 65 ∧ m'.1 66 = m.1 66 ∧ m'.1 67 = m.1 67 ∧ m'.1 68 = m.1 68 ∧ m'.1 69 = m.1 69 ∧ m'.1 70 = m.1 70 ∧ m'.1 71 = m.1 71 ∧ m'.1 72 = m.1 72 ∧ m'.1 73 = m.1 73 ∧ m'.1 74 = m.1 74 ∧ m'.1 75 = m.1 75 ∧ m'.1 106 = m.1 106 ∧ m'.1 107 = m.1 107 ∧ (∀ j, j < 13 → m'.1 (30 + j) = m.1 (30 + j))
theorem IH.congr {m m' : pMem} {c g l : Nat} (h : IH m c g l) (s : IH.same m m') : IH m' c g l := by
  obtain ⟨e0, e1, e2, e3, e4, e5, e6, e7, e8, e9, e10, e11, e12, e13, e14, e15, e16, e17, e18, e19, e20, e21, e22, e23, e24, e25, e26, e27, e28, e29, e30, e31⟩ := s
  exact ⟨by simp only [e0, e1, e2, e3, e4, e5, e6, e7, e8, e9, e10, e11, e12, e13, e14, e15, e16, e17, e18, e19, e20, e21, e22, e23, e24, e25, e26, e27, e28, e29, e30]; exact h.c9,
    by simp only [e0, e1, e2, e3, e4, e5, e6, e7, e8, e9, e10, e11, e12, e13, e14, e15, e16, e17, e18, e19, e20, e21, e22, e23, e24, e25, e26, e27, e28, e29, e30]; exact h.c3,
    h.cle,
    by simp only [e0, e1, e2, e3, e4, e5, e6, e7, e8, e9, e10, e11, e12, e13, e14, e15, e16, e17, e18, e19, e20, e21, e22, e23, e24, e25, e26, e27, e28, e29, e30]; exact h.g9,
    by simp only [e0, e1, e2, e3, e4, e5, e6, e7, e8, e9, e10, e11, e12, e13, e14, e15, e16, e17, e18, e19, e20, e21, e22, e23, e24, e25, e26, e27, e28, e29, e30]; exact h.g3,
    h.gle,
    by simp only [e0, e1, e2, e3, e4, e5, e6, e7, e8, e9, e10, e11, e12, e13, e14, e15, e16, e17, e18, e19, e20, e21, e22, e23, e24, e25, e26, e27, e28, e29, e30]; exact h.l9,
    by simp only [e0, e1, e2, e3, e4, e5, e6, e7, e8, e9, e10, e11, e12, e13, e14, e15, e16, e17, e18, e19, e20, e21, e22, e23, e24, e25, e26, e27, e28, e29, e30]; exact h.l3,
    h.lle,
    by simp only [e0, e1, e2, e3, e4, e5, e6, e7, e8, e9, e10, e11, e12, e13, e14, e15, e16, e17, e18, e19, e20, e21, e22, e23, e24, e25, e26, e27, e28, e29, e30]; exact h.ll,
    by simp only [e0, e1, e2, e3, e4, e5, e6, e7, e8, e9, e10, e11, e12, e13, e14, e15, e16, e17, e18, e19, e20, e21, e22, e23, e24, e25, e26, e27, e28, e29, e30]; exact h.heads,
    by simp only [e0, e1, e2, e3, e4, e5, e6, e7, e8, e9, e10, e11, e12, e13, e14, e15, e16, e17, e18, e19, e20, e21, e22, e23, e24, e25, e26, e27, e28, e29, e30]; exact h.worth,
    by simp only [e0, e1, e2, e3, e4, e5, e6, e7, e8, e9, e10, e11, e12, e13, e14, e15, e16, e17, e18, e19, e20, e21, e22, e23, e24, e25, e26, e27, e28, e29, e30]; exact h.par,
    by simp only [e0, e1, e2, e3, e4, e5, e6, e7, e8, e9, e10, e11, e12, e13, e14, e15, e16, e17, e18, e19, e20, e21, e22, e23, e24, e25, e26, e27, e28, e29, e30]; exact h.cam,
    by simp only [e0, e1, e2, e3, e4, e5, e6, e7, e8, e9, e10, e11, e12, e13, e14, e15, e16, e17, e18, e19, e20, e21, e22, e23, e24, e25, e26, e27, e28, e29, e30]; exact h.knd,
    by simp only [e0, e1, e2, e3, e4, e5, e6, e7, e8, e9, e10, e11, e12, e13, e14, e15, e16, e17, e18, e19, e20, e21, e22, e23, e24, e25, e26, e27, e28, e29, e30]; exact h.day,
    by simp only [e0, e1, e2, e3, e4, e5, e6, e7, e8, e9, e10, e11, e12, e13, e14, e15, e16, e17, e18, e19, e20, e21, e22, e23, e24, e25, e26, e27, e28, e29, e30]; exact h.fst,
    by simp only [e0, e1, e2, e3, e4, e5, e6, e7, e8, e9, e10, e11, e12, e13, e14, e15, e16, e17, e18, e19, e20, e21, e22, e23, e24, e25, e26, e27, e28, e29, e30]; exact h.snd,
    by simp only [e0, e1, e2, e3, e4, e5, e6, e7, e8, e9, e10, e11, e12, e13, e14, e15, e16, e17, e18, e19, e20, e21, e22, e23, e24, e25, e26, e27, e28, e29, e30]; exact h.frs,
    by simp only [e0, e1, e2, e3, e4, e5, e6, e7, e8, e9, e10, e11, e12, e13, e14, e15, e16, e17, e18, e19, e20, e21, e22, e23, e24, e25, e26, e27, e28, e29, e30]; exact h.thr,
    by simp only [e0, e1, e2, e3, e4, e5, e6, e7, e8, e9, e10, e11, e12, e13, e14, e15, e16, e17, e18, e19, e20, e21, e22, e23, e24, e25, e26, e27, e28, e29, e30]; exact h.hr,
    by simp only [e0, e1, e2, e3, e4, e5, e6, e7, e8, e9, e10, e11, e12, e13, e14, e15, e16, e17, e18, e19, e20, e21, e22, e23, e24, e25, e26, e27, e28, e29, e30]; exact h.wr,
    by simp only [e0, e1, e2, e3, e4, e5, e6, e7, e8, e9, e10, e11, e12, e13, e14, e15, e16, e17, e18, e19, e20, e21, e22, e23, e24, e25, e26, e27, e28, e29, e30]; exact h.kr,
    by simp only [e0, e1, e2, e3, e4, e5, e6, e7, e8, e9, e10, e11, e12, e13, e14, e15, e16, e17, e18, e19, e20, e21, e22, e23, e24, e25, e26, e27, e28, e29, e30]; exact h.dr,
    by simp only [e0, e1, e2, e3, e4, e5, e6, e7, e8, e9, e10, e11, e12, e13, e14, e15, e16, e17, e18, e19, e20, e21, e22, e23, e24, e25, e26, e27, e28, e29, e30]; exact h.ds,
    by simp only [e0, e1, e2, e3, e4, e5, e6, e7, e8, e9, e10, e11, e12, e13, e14, e15, e16, e17, e18, e19, e20, e21, e22, e23, e24, e25, e26, e27, e28, e29, e30]; exact h.ar,
    by simp only [e0, e1, e2, e3, e4, e5, e6, e7, e8, e9, e10, e11, e12, e13, e14, e15, e16, e17, e18, e19, e20, e21, e22, e23, e24, e25, e26, e27, e28, e29, e30]; exact h.br,
    by simp only [e0, e1, e2, e3, e4, e5, e6, e7, e8, e9, e10, e11, e12, e13, e14, e15, e16, e17, e18, e19, e20, e21, e22, e23, e24, e25, e26, e27, e28, e29, e30]; exact h.fr,
    by simp only [e0, e1, e2, e3, e4, e5, e6, e7, e8, e9, e10, e11, e12, e13, e14, e15, e16, e17, e18, e19, e20, e21, e22, e23, e24, e25, e26, e27, e28, e29, e30]; exact h.sr,
    by simp only [e0, e1, e2, e3, e4, e5, e6, e7, e8, e9, e10, e11, e12, e13, e14, e15, e16, e17, e18, e19, e20, e21, e22, e23, e24, e25, e26, e27, e28, e29, e30]; exact h.o0,
    by simp only [e0, e1, e2, e3, e4, e5, e6, e7, e8, e9, e10, e11, e12, e13, e14, e15, e16, e17, e18, e19, e20, e21, e22, e23, e24, e25, e26, e27, e28, e29, e30]; exact h.os,
    by simp only [e0, e1, e2, e3, e4, e5, e6, e7, e8, e9, e10, e11, e12, e13, e14, e15, e16, e17, e18, e19, e20, e21, e22, e23, e24, e25, e26, e27, e28, e29, e30]; exact h.t0,
    by simp only [e0, e1, e2, e3, e4, e5, e6, e7, e8, e9, e10, e11, e12, e13, e14, e15, e16, e17, e18, e19, e20, e21, e22, e23, e24, e25, e26, e27, e28, e29, e30]; exact h.ts,
    fun j hj q hq => by rw [e31 j (by have := h.cle; omega)]; simp only [e0, e1, e2, e3, e4, e5, e6, e7, e8, e9, e10, e11, e12, e13, e14, e15, e16, e17, e18, e19, e20, e21, e22, e23, e24, e25, e26, e27, e28, e29, e30]; exact h.rows j hj q hq,
    by simp only [e0, e1, e2, e3, e4, e5, e6, e7, e8, e9, e10, e11, e12, e13, e14, e15, e16, e17, e18, e19, e20, e21, e22, e23, e24, e25, e26, e27, e28, e29, e30]; exact h.f0,
    by simp only [e0, e1, e2, e3, e4, e5, e6, e7, e8, e9, e10, e11, e12, e13, e14, e15, e16, e17, e18, e19, e20, e21, e22, e23, e24, e25, e26, e27, e28, e29, e30]; exact h.cm0,
    by simp only [e0, e1, e2, e3, e4, e5, e6, e7, e8, e9, e10, e11, e12, e13, e14, e15, e16, e17, e18, e19, e20, e21, e22, e23, e24, e25, e26, e27, e28, e29, e30]; exact h.pf,
    by simp only [e0, e1, e2, e3, e4, e5, e6, e7, e8, e9, e10, e11, e12, e13, e14, e15, e16, e17, e18, e19, e20, e21, e22, e23, e24, e25, e26, e27, e28, e29, e30]; exact h.pf2,
    by simp only [e0, e1, e2, e3, e4, e5, e6, e7, e8, e9, e10, e11, e12, e13, e14, e15, e16, e17, e18, e19, e20, e21, e22, e23, e24, e25, e26, e27, e28, e29, e30]; exact h.sof,
    by simp only [e0, e1, e2, e3, e4, e5, e6, e7, e8, e9, e10, e11, e12, e13, e14, e15, e16, e17, e18, e19, e20, e21, e22, e23, e24, e25, e26, e27, e28, e29, e30]; exact h.soo,
    by have z := h.en; unfold ends at z ⊢; simp only [e0, e1, e2, e3, e4, e5, e6, e7, e8, e9, e10, e11, e12, e13, e14, e15, e16, e17, e18, e19, e20, e21, e22, e23, e24, e25, e26, e27, e28, e29, e30]; exact z⟩

def IT (m : pMem) (b : Nat) : Prop :=
  (m.1 9 15 = nI b) ∧
  (m.1 6 1 = nI b) ∧
  (b ≤ 160) ∧
  (m.1 52 = m.1 76) ∧
  (m.1 53 = m.1 78) ∧
  (m.1 78 0 = 0 ∨ m.1 78 0 = 1) ∧
  (m.1 78 1 = 0 ∨ m.1 78 1 = 1) ∧
  (∃ k, k ≤ 999 ∧ m.1 78 2 = nI k) ∧
  (∃ k, k ≤ 2 ∧ m.1 78 3 = nI k) ∧
  (∃ k, k ≤ 2 ∧ m.1 78 4 = nI k)
theorem IT.b9 {m : pMem} {b : Nat} (h : IT m b) : m.1 9 15 = nI b := h.1
theorem IT.b6 {m : pMem} {b : Nat} (h : IT m b) : m.1 6 1 = nI b := h.2.1
theorem IT.ble {m : pMem} {b : Nat} (h : IT m b) : b ≤ 160 := h.2.2.1
theorem IT.byt {m : pMem} {b : Nat} (h : IT m b) : m.1 52 = m.1 76 := h.2.2.2.1
theorem IT.rul {m : pMem} {b : Nat} (h : IT m b) : m.1 53 = m.1 78 := h.2.2.2.2.1
theorem IT.r0 {m : pMem} {b : Nat} (h : IT m b) : m.1 78 0 = 0 ∨ m.1 78 0 = 1 := h.2.2.2.2.2.1
theorem IT.r1 {m : pMem} {b : Nat} (h : IT m b) : m.1 78 1 = 0 ∨ m.1 78 1 = 1 := h.2.2.2.2.2.2.1
theorem IT.r2 {m : pMem} {b : Nat} (h : IT m b) : ∃ k, k ≤ 999 ∧ m.1 78 2 = nI k := h.2.2.2.2.2.2.2.1
theorem IT.r3 {m : pMem} {b : Nat} (h : IT m b) : ∃ k, k ≤ 2 ∧ m.1 78 3 = nI k := h.2.2.2.2.2.2.2.2.1
theorem IT.r4 {m : pMem} {b : Nat} (h : IT m b) : ∃ k, k ≤ 2 ∧ m.1 78 4 = nI k := h.2.2.2.2.2.2.2.2.2
def IT.same (m m' : pMem) : Prop := m'.1 6 1 = m.1 6 1 ∧ m'.1 9 15 = m.1 9 15 ∧ m'.1 52 = m.1 52 ∧ m'.1 53 = m.1 53 ∧ m'.1 76 = m.1 76 ∧ m'.1 78 = m.1 78
theorem IT.congr {m m' : pMem} {b : Nat} (h : IT m b) (s : IT.same m m') : IT m' b := by
  obtain ⟨e0, e1, e2, e3, e4, e5⟩ := s
  exact ⟨by simp only [e0, e1, e2, e3, e4, e5]; exact h.b9,
    by simp only [e0, e1, e2, e3, e4, e5]; exact h.b6,
    h.ble,
    by simp only [e0, e1, e2, e3, e4, e5]; exact h.byt,
    by simp only [e0, e1, e2, e3, e4, e5]; exact h.rul,
    by simp only [e0, e1, e2, e3, e4, e5]; exact h.r0,
    by simp only [e0, e1, e2, e3, e4, e5]; exact h.r1,
    by simp only [e0, e1, e2, e3, e4, e5]; exact h.r2,
    by simp only [e0, e1, e2, e3, e4, e5]; exact h.r3,
    by simp only [e0, e1, e2, e3, e4, e5]; exact h.r4⟩

def IP (m : pMem) (c g l p w v : Nat) : Prop :=
  (m.1 9 26 = nI p) ∧
  (m.1 4 8 = nI p) ∧
  (p ≤ 12) ∧
  (m.1 44 = m.1 79) ∧
  (m.1 45 = m.1 80) ∧
  (m.1 47 = m.1 83) ∧
  (∀ i, i < p → m.1 79 i = 0 → m.1 46 i = m.1 82 i) ∧
  (∀ i, i < p → ∃ k, k ≤ 2 ∧ m.1 79 i = nI k) ∧
  (∀ i, i < p → ∃ k, k < l ∧ m.1 80 i = nI k) ∧
  (∀ i, i < p → m.1 79 i = 0 → ∃ k, k < g ∧ m.1 82 i = nI k) ∧
  (∀ i, i < p → ∃ k, k ≤ 999 ∧ m.1 83 i = nI k) ∧
  (m.1 4 9 = mxF (m.1 83) p) ∧
  (m.1 9 32 = nI w) ∧
  (m.1 8 5 = nI w) ∧
  (w ≤ 24) ∧
  (m.1 59 = m.1 84) ∧
  (m.1 60 = m.1 85) ∧
  (m.1 61 = m.1 87) ∧
  (m.1 62 = m.1 88) ∧
  (m.1 63 = m.1 86) ∧
  (∀ i, i < w → ∃ k, k < p ∧ m.1 84 i = nI k) ∧
  (∀ i, i < w → ∃ k, k < l ∧ m.1 85 i = nI k) ∧
  (∀ i, i < w → m.1 87 i = 0 ∨ m.1 87 i = 1) ∧
  (∀ i, i < w → m.1 88 i = 0 ∨ m.1 88 i = 1) ∧
  (∀ i, i < w → ∃ k, k ≤ 999 ∧ m.1 86 i = nI k) ∧
  (m.1 9 39 = nI v) ∧
  (m.1 7 4 = nI v) ∧
  (v ≤ 24) ∧
  (m.1 55 = m.1 89) ∧
  (m.1 56 = m.1 90) ∧
  (m.1 57 = m.1 92) ∧
  (m.1 58 = m.1 91) ∧
  (∀ i, i < v → ∃ k, k < 6 ∧ m.1 89 i = nI k) ∧
  (∀ i, i < v → ∃ k, k < l ∧ m.1 90 i = nI k) ∧
  (∀ i, i < v → m.1 92 i = 0 ∨ m.1 92 i = 1) ∧
  (∀ i, i < v → ∃ k, k ≤ 999 ∧ m.1 91 i = nI k) ∧
  (m.1 9 38 = 0) ∧
  (∀ j, j < c → ∀ k, k ≤ 999 → m.1 69 j = nI k → mkd m k) ∧
  (∀ i, i < p → ∀ k, k ≤ 999 → m.1 83 i = nI k → mkd m k) ∧
  (∀ i, i < w → ∀ k, k ≤ 999 → m.1 86 i = nI k → mkd m k) ∧
  (∀ i, i < v → ∀ k, k ≤ 999 → m.1 91 i = nI k → mkd m k)
theorem IP.p9 {m : pMem} {c g l p w v : Nat} (h : IP m c g l p w v) : m.1 9 26 = nI p := h.1
theorem IP.p4 {m : pMem} {c g l p w v : Nat} (h : IP m c g l p w v) : m.1 4 8 = nI p := h.2.1
theorem IP.ple {m : pMem} {c g l p w v : Nat} (h : IP m c g l p w v) : p ≤ 12 := h.2.2.1
theorem IP.knd {m : pMem} {c g l p w v : Nat} (h : IP m c g l p w v) : m.1 44 = m.1 79 := h.2.2.2.1
theorem IP.sgn {m : pMem} {c g l p w v : Nat} (h : IP m c g l p w v) : m.1 45 = m.1 80 := h.2.2.2.2.1
theorem IP.day {m : pMem} {c g l p w v : Nat} (h : IP m c g l p w v) : m.1 47 = m.1 83 := h.2.2.2.2.2.1
theorem IP.plc {m : pMem} {c g l p w v : Nat} (h : IP m c g l p w v) : ∀ i, i < p → m.1 79 i = 0 → m.1 46 i = m.1 82 i := h.2.2.2.2.2.2.1
theorem IP.kr {m : pMem} {c g l p w v : Nat} (h : IP m c g l p w v) : ∀ i, i < p → ∃ k, k ≤ 2 ∧ m.1 79 i = nI k := h.2.2.2.2.2.2.2.1
theorem IP.lr {m : pMem} {c g l p w v : Nat} (h : IP m c g l p w v) : ∀ i, i < p → ∃ k, k < l ∧ m.1 80 i = nI k := h.2.2.2.2.2.2.2.2.1
theorem IP.gr {m : pMem} {c g l p w v : Nat} (h : IP m c g l p w v) : ∀ i, i < p → m.1 79 i = 0 → ∃ k, k < g ∧ m.1 82 i = nI k := h.2.2.2.2.2.2.2.2.2.1
theorem IP.dr {m : pMem} {c g l p w v : Nat} (h : IP m c g l p w v) : ∀ i, i < p → ∃ k, k ≤ 999 ∧ m.1 83 i = nI k := h.2.2.2.2.2.2.2.2.2.2.1
theorem IP.lat {m : pMem} {c g l p w v : Nat} (h : IP m c g l p w v) : m.1 4 9 = mxF (m.1 83) p := h.2.2.2.2.2.2.2.2.2.2.2.1
theorem IP.w9 {m : pMem} {c g l p w v : Nat} (h : IP m c g l p w v) : m.1 9 32 = nI w := h.2.2.2.2.2.2.2.2.2.2.2.2.1
theorem IP.w8 {m : pMem} {c g l p w v : Nat} (h : IP m c g l p w v) : m.1 8 5 = nI w := h.2.2.2.2.2.2.2.2.2.2.2.2.2.1
theorem IP.wle {m : pMem} {c g l p w v : Nat} (h : IP m c g l p w v) : w ≤ 24 := h.2.2.2.2.2.2.2.2.2.2.2.2.2.2.1
theorem IP.wp {m : pMem} {c g l p w v : Nat} (h : IP m c g l p w v) : m.1 59 = m.1 84 := h.2.2.2.2.2.2.2.2.2.2.2.2.2.2.2.1
theorem IP.wl {m : pMem} {c g l p w v : Nat} (h : IP m c g l p w v) : m.1 60 = m.1 85 := h.2.2.2.2.2.2.2.2.2.2.2.2.2.2.2.2.1
theorem IP.wt {m : pMem} {c g l p w v : Nat} (h : IP m c g l p w v) : m.1 61 = m.1 87 := h.2.2.2.2.2.2.2.2.2.2.2.2.2.2.2.2.2.1
theorem IP.wy {m : pMem} {c g l p w v : Nat} (h : IP m c g l p w v) : m.1 62 = m.1 88 := h.2.2.2.2.2.2.2.2.2.2.2.2.2.2.2.2.2.2.1
theorem IP.wd {m : pMem} {c g l p w v : Nat} (h : IP m c g l p w v) : m.1 63 = m.1 86 := h.2.2.2.2.2.2.2.2.2.2.2.2.2.2.2.2.2.2.2.1
theorem IP.wpr {m : pMem} {c g l p w v : Nat} (h : IP m c g l p w v) : ∀ i, i < w → ∃ k, k < p ∧ m.1 84 i = nI k := h.2.2.2.2.2.2.2.2.2.2.2.2.2.2.2.2.2.2.2.2.1
theorem IP.wlr {m : pMem} {c g l p w v : Nat} (h : IP m c g l p w v) : ∀ i, i < w → ∃ k, k < l ∧ m.1 85 i = nI k := h.2.2.2.2.2.2.2.2.2.2.2.2.2.2.2.2.2.2.2.2.2.1
theorem IP.wtr {m : pMem} {c g l p w v : Nat} (h : IP m c g l p w v) : ∀ i, i < w → m.1 87 i = 0 ∨ m.1 87 i = 1 := h.2.2.2.2.2.2.2.2.2.2.2.2.2.2.2.2.2.2.2.2.2.2.1
theorem IP.wyr {m : pMem} {c g l p w v : Nat} (h : IP m c g l p w v) : ∀ i, i < w → m.1 88 i = 0 ∨ m.1 88 i = 1 := h.2.2.2.2.2.2.2.2.2.2.2.2.2.2.2.2.2.2.2.2.2.2.2.1
theorem IP.wdr {m : pMem} {c g l p w v : Nat} (h : IP m c g l p w v) : ∀ i, i < w → ∃ k, k ≤ 999 ∧ m.1 86 i = nI k := h.2.2.2.2.2.2.2.2.2.2.2.2.2.2.2.2.2.2.2.2.2.2.2.2.1
theorem IP.v9 {m : pMem} {c g l p w v : Nat} (h : IP m c g l p w v) : m.1 9 39 = nI v := h.2.2.2.2.2.2.2.2.2.2.2.2.2.2.2.2.2.2.2.2.2.2.2.2.2.1
theorem IP.v7 {m : pMem} {c g l p w v : Nat} (h : IP m c g l p w v) : m.1 7 4 = nI v := h.2.2.2.2.2.2.2.2.2.2.2.2.2.2.2.2.2.2.2.2.2.2.2.2.2.2.1
theorem IP.vle {m : pMem} {c g l p w v : Nat} (h : IP m c g l p w v) : v ≤ 24 := h.2.2.2.2.2.2.2.2.2.2.2.2.2.2.2.2.2.2.2.2.2.2.2.2.2.2.2.1
theorem IP.vt {m : pMem} {c g l p w v : Nat} (h : IP m c g l p w v) : m.1 55 = m.1 89 := h.2.2.2.2.2.2.2.2.2.2.2.2.2.2.2.2.2.2.2.2.2.2.2.2.2.2.2.2.1
theorem IP.vl {m : pMem} {c g l p w v : Nat} (h : IP m c g l p w v) : m.1 56 = m.1 90 := h.2.2.2.2.2.2.2.2.2.2.2.2.2.2.2.2.2.2.2.2.2.2.2.2.2.2.2.2.2.1
theorem IP.vy {m : pMem} {c g l p w v : Nat} (h : IP m c g l p w v) : m.1 57 = m.1 92 := h.2.2.2.2.2.2.2.2.2.2.2.2.2.2.2.2.2.2.2.2.2.2.2.2.2.2.2.2.2.2.1
theorem IP.vd {m : pMem} {c g l p w v : Nat} (h : IP m c g l p w v) : m.1 58 = m.1 91 := h.2.2.2.2.2.2.2.2.2.2.2.2.2.2.2.2.2.2.2.2.2.2.2.2.2.2.2.2.2.2.2.1
theorem IP.vtr {m : pMem} {c g l p w v : Nat} (h : IP m c g l p w v) : ∀ i, i < v → ∃ k, k < 6 ∧ m.1 89 i = nI k := h.2.2.2.2.2.2.2.2.2.2.2.2.2.2.2.2.2.2.2.2.2.2.2.2.2.2.2.2.2.2.2.2.1
theorem IP.vlr {m : pMem} {c g l p w v : Nat} (h : IP m c g l p w v) : ∀ i, i < v → ∃ k, k < l ∧ m.1 90 i = nI k := h.2.2.2.2.2.2.2.2.2.2.2.2.2.2.2.2.2.2.2.2.2.2.2.2.2.2.2.2.2.2.2.2.2.1
theorem IP.vyr {m : pMem} {c g l p w v : Nat} (h : IP m c g l p w v) : ∀ i, i < v → m.1 92 i = 0 ∨ m.1 92 i = 1 := h.2.2.2.2.2.2.2.2.2.2.2.2.2.2.2.2.2.2.2.2.2.2.2.2.2.2.2.2.2.2.2.2.2.2.1
theorem IP.vdr {m : pMem} {c g l p w v : Nat} (h : IP m c g l p w v) : ∀ i, i < v → ∃ k, k ≤ 999 ∧ m.1 91 i = nI k := h.2.2.2.2.2.2.2.2.2.2.2.2.2.2.2.2.2.2.2.2.2.2.2.2.2.2.2.2.2.2.2.2.2.2.2.1
theorem IP.lft {m : pMem} {c g l p w v : Nat} (h : IP m c g l p w v) : m.1 9 38 = 0 := h.2.2.2.2.2.2.2.2.2.2.2.2.2.2.2.2.2.2.2.2.2.2.2.2.2.2.2.2.2.2.2.2.2.2.2.2.1
theorem IP.mc {m : pMem} {c g l p w v : Nat} (h : IP m c g l p w v) : ∀ j, j < c → ∀ k, k ≤ 999 → m.1 69 j = nI k → mkd m k := h.2.2.2.2.2.2.2.2.2.2.2.2.2.2.2.2.2.2.2.2.2.2.2.2.2.2.2.2.2.2.2.2.2.2.2.2.2.1
theorem IP.mp {m : pMem} {c g l p w v : Nat} (h : IP m c g l p w v) : ∀ i, i < p → ∀ k, k ≤ 999 → m.1 83 i = nI k → mkd m k := h.2.2.2.2.2.2.2.2.2.2.2.2.2.2.2.2.2.2.2.2.2.2.2.2.2.2.2.2.2.2.2.2.2.2.2.2.2.2.1
theorem IP.mw {m : pMem} {c g l p w v : Nat} (h : IP m c g l p w v) : ∀ i, i < w → ∀ k, k ≤ 999 → m.1 86 i = nI k → mkd m k := h.2.2.2.2.2.2.2.2.2.2.2.2.2.2.2.2.2.2.2.2.2.2.2.2.2.2.2.2.2.2.2.2.2.2.2.2.2.2.2.1
theorem IP.mv {m : pMem} {c g l p w v : Nat} (h : IP m c g l p w v) : ∀ i, i < v → ∀ k, k ≤ 999 → m.1 91 i = nI k → mkd m k := h.2.2.2.2.2.2.2.2.2.2.2.2.2.2.2.2.2.2.2.2.2.2.2.2.2.2.2.2.2.2.2.2.2.2.2.2.2.2.2.2
def IP.same (m m' : pMem) : Prop := m'.1 4 8 = m.1 4 8 ∧ m'.1 4 9 = m.1 4 9 ∧ m'.1 7 4 = m.1 7 4 ∧ m'.1 8 5 = m.1 8 5 ∧ m'.1 9 26 = m.1 9 26 ∧ m'.1 9 32 = m.1 9 32 ∧ m'.1 9 38 = m.1 9 38 ∧ m'.1 9 39 = m.1 9 39 ∧ m'.1 44 = m.1 44 ∧ m'.1 45 = m.1 45 ∧ m'.1 46 = m.1 46 ∧ m'.1 47 = m.1 47 ∧ m'.1 55 = m.1 55 ∧ m'.1 56 = m.1 56 ∧ m'.1 57 = m.1 57 ∧ m'.1 58 = m.1 58 ∧ m'.1 59 = m.1 59 ∧ m'.1 60 = m.1 60 ∧ m'.1 61 = m.1 61 ∧ m'.1 62 = m.1 62 ∧ m'.1 63 = m.1 63 ∧ m'.1 69 = m.1 69 ∧ m'.1 79 = m.1 79 ∧ m'.1 80 = m.1 80 ∧ m'.1 82 = m.1 82 ∧ m'.1 83 = m.1 83 ∧ m'.1 84 = m.1 84 ∧ m'.1 85 = m.1 85 ∧ m'.1 86 = m.1 86 ∧ m'.1 87 = m.1 87 ∧ m'.1 88 = m.1 88 ∧ m'.1 89 = m.1 89 ∧ m'.1 90 = m.1 90 ∧ m'.1 91 = m.1 91 ∧ m'.1 92 = m.1 92 ∧ m'.2 10 = m.2 10
theorem IP.congr {m m' : pMem} {c g l p w v : Nat} (h : IP m c g l p w v) (s : IP.same m m') : IP m' c g l p w v := by
  obtain ⟨e0, e1, e2, e3, e4, e5, e6, e7, e8, e9, e10, e11, e12, e13, e14, e15, e16, e17, e18, e19, e20, e21, e22, e23, e24, e25, e26, e27, e28, e29, e30, e31, e32, e33, e34, e35⟩ := s
  exact ⟨by simp only [e0, e1, e2, e3, e4, e5, e6, e7, e8, e9, e10, e11, e12, e13, e14, e15, e16, e17, e18, e19, e20, e21, e22, e23, e24, e25, e26, e27, e28, e29, e30, e31, e32, e33, e34]; exact h.p9,
    by simp only [e0, e1, e2, e3, e4, e5, e6, e7, e8, e9, e10, e11, e12, e13, e14, e15, e16, e17, e18, e19, e20, e21, e22, e23, e24, e25, e26, e27, e28, e29, e30, e31, e32, e33, e34]; exact h.p4,
    h.ple,
    by simp only [e0, e1, e2, e3, e4, e5, e6, e7, e8, e9, e10, e11, e12, e13, e14, e15, e16, e17, e18, e19, e20, e21, e22, e23, e24, e25, e26, e27, e28, e29, e30, e31, e32, e33, e34]; exact h.knd,
    by simp only [e0, e1, e2, e3, e4, e5, e6, e7, e8, e9, e10, e11, e12, e13, e14, e15, e16, e17, e18, e19, e20, e21, e22, e23, e24, e25, e26, e27, e28, e29, e30, e31, e32, e33, e34]; exact h.sgn,
    by simp only [e0, e1, e2, e3, e4, e5, e6, e7, e8, e9, e10, e11, e12, e13, e14, e15, e16, e17, e18, e19, e20, e21, e22, e23, e24, e25, e26, e27, e28, e29, e30, e31, e32, e33, e34]; exact h.day,
    by simp only [e0, e1, e2, e3, e4, e5, e6, e7, e8, e9, e10, e11, e12, e13, e14, e15, e16, e17, e18, e19, e20, e21, e22, e23, e24, e25, e26, e27, e28, e29, e30, e31, e32, e33, e34]; exact h.plc,
    by simp only [e0, e1, e2, e3, e4, e5, e6, e7, e8, e9, e10, e11, e12, e13, e14, e15, e16, e17, e18, e19, e20, e21, e22, e23, e24, e25, e26, e27, e28, e29, e30, e31, e32, e33, e34]; exact h.kr,
    by simp only [e0, e1, e2, e3, e4, e5, e6, e7, e8, e9, e10, e11, e12, e13, e14, e15, e16, e17, e18, e19, e20, e21, e22, e23, e24, e25, e26, e27, e28, e29, e30, e31, e32, e33, e34]; exact h.lr,
    by simp only [e0, e1, e2, e3, e4, e5, e6, e7, e8, e9, e10, e11, e12, e13, e14, e15, e16, e17, e18, e19, e20, e21, e22, e23, e24, e25, e26, e27, e28, e29, e30, e31, e32, e33, e34]; exact h.gr,
    by simp only [e0, e1, e2, e3, e4, e5, e6, e7, e8, e9, e10, e11, e12, e13, e14, e15, e16, e17, e18, e19, e20, e21, e22, e23, e24, e25, e26, e27, e28, e29, e30, e31, e32, e33, e34]; exact h.dr,
    by simp only [e0, e1, e2, e3, e4, e5, e6, e7, e8, e9, e10, e11, e12, e13, e14, e15, e16, e17, e18, e19, e20, e21, e22, e23, e24, e25, e26, e27, e28, e29, e30, e31, e32, e33, e34]; exact h.lat,
    by simp only [e0, e1, e2, e3, e4, e5, e6, e7, e8, e9, e10, e11, e12, e13, e14, e15, e16, e17, e18, e19, e20, e21, e22, e23, e24, e25, e26, e27, e28, e29, e30, e31, e32, e33, e34]; exact h.w9,
    by simp only [e0, e1, e2, e3, e4, e5, e6, e7, e8, e9, e10, e11, e12, e13, e14, e15, e16, e17, e18, e19, e20, e21, e22, e23, e24, e25, e26, e27, e28, e29, e30, e31, e32, e33, e34]; exact h.w8,
    h.wle,
    by simp only [e0, e1, e2, e3, e4, e5, e6, e7, e8, e9, e10, e11, e12, e13, e14, e15, e16, e17, e18, e19, e20, e21, e22, e23, e24, e25, e26, e27, e28, e29, e30, e31, e32, e33, e34]; exact h.wp,
    by simp only [e0, e1, e2, e3, e4, e5, e6, e7, e8, e9, e10, e11, e12, e13, e14, e15, e16, e17, e18, e19, e20, e21, e22, e23, e24, e25, e26, e27, e28, e29, e30, e31, e32, e33, e34]; exact h.wl,
    by simp only [e0, e1, e2, e3, e4, e5, e6, e7, e8, e9, e10, e11, e12, e13, e14, e15, e16, e17, e18, e19, e20, e21, e22, e23, e24, e25, e26, e27, e28, e29, e30, e31, e32, e33, e34]; exact h.wt,
    by simp only [e0, e1, e2, e3, e4, e5, e6, e7, e8, e9, e10, e11, e12, e13, e14, e15, e16, e17, e18, e19, e20, e21, e22, e23, e24, e25, e26, e27, e28, e29, e30, e31, e32, e33, e34]; exact h.wy,
    by simp only [e0, e1, e2, e3, e4, e5, e6, e7, e8, e9, e10, e11, e12, e13, e14, e15, e16, e17, e18, e19, e20, e21, e22, e23, e24, e25, e26, e27, e28, e29, e30, e31, e32, e33, e34]; exact h.wd,
    by simp only [e0, e1, e2, e3, e4, e5, e6, e7, e8, e9, e10, e11, e12, e13, e14, e15, e16, e17, e18, e19, e20, e21, e22, e23, e24, e25, e26, e27, e28, e29, e30, e31, e32, e33, e34]; exact h.wpr,
    by simp only [e0, e1, e2, e3, e4, e5, e6, e7, e8, e9, e10, e11, e12, e13, e14, e15, e16, e17, e18, e19, e20, e21, e22, e23, e24, e25, e26, e27, e28, e29, e30, e31, e32, e33, e34]; exact h.wlr,
    by simp only [e0, e1, e2, e3, e4, e5, e6, e7, e8, e9, e10, e11, e12, e13, e14, e15, e16, e17, e18, e19, e20, e21, e22, e23, e24, e25, e26, e27, e28, e29, e30, e31, e32, e33, e34]; exact h.wtr,
    by simp only [e0, e1, e2, e3, e4, e5, e6, e7, e8, e9, e10, e11, e12, e13, e14, e15, e16, e17, e18, e19, e20, e21, e22, e23, e24, e25, e26, e27, e28, e29, e30, e31, e32, e33, e34]; exact h.wyr,
    by simp only [e0, e1, e2, e3, e4, e5, e6, e7, e8, e9, e10, e11, e12, e13, e14, e15, e16, e17, e18, e19, e20, e21, e22, e23, e24, e25, e26, e27, e28, e29, e30, e31, e32, e33, e34]; exact h.wdr,
    by simp only [e0, e1, e2, e3, e4, e5, e6, e7, e8, e9, e10, e11, e12, e13, e14, e15, e16, e17, e18, e19, e20, e21, e22, e23, e24, e25, e26, e27, e28, e29, e30, e31, e32, e33, e34]; exact h.v9,
    by simp only [e0, e1, e2, e3, e4, e5, e6, e7, e8, e9, e10, e11, e12, e13, e14, e15, e16, e17, e18, e19, e20, e21, e22, e23, e24, e25, e26, e27, e28, e29, e30, e31, e32, e33, e34]; exact h.v7,
    h.vle,
    by simp only [e0, e1, e2, e3, e4, e5, e6, e7, e8, e9, e10, e11, e12, e13, e14, e15, e16, e17, e18, e19, e20, e21, e22, e23, e24, e25, e26, e27, e28, e29, e30, e31, e32, e33, e34]; exact h.vt,
    by simp only [e0, e1, e2, e3, e4, e5, e6, e7, e8, e9, e10, e11, e12, e13, e14, e15, e16, e17, e18, e19, e20, e21, e22, e23, e24, e25, e26, e27, e28, e29, e30, e31, e32, e33, e34]; exact h.vl,
    by simp only [e0, e1, e2, e3, e4, e5, e6, e7, e8, e9, e10, e11, e12, e13, e14, e15, e16, e17, e18, e19, e20, e21, e22, e23, e24, e25, e26, e27, e28, e29, e30, e31, e32, e33, e34]; exact h.vy,
    by simp only [e0, e1, e2, e3, e4, e5, e6, e7, e8, e9, e10, e11, e12, e13, e14, e15, e16, e17, e18, e19, e20, e21, e22, e23, e24, e25, e26, e27, e28, e29, e30, e31, e32, e33, e34]; exact h.vd,
    by simp only [e0, e1, e2, e3, e4, e5, e6, e7, e8, e9, e10, e11, e12, e13, e14, e15, e16, e17, e18, e19, e20, e21, e22, e23, e24, e25, e26, e27, e28, e29, e30, e31, e32, e33, e34]; exact h.vtr,
    by simp only [e0, e1, e2, e3, e4, e5, e6, e7, e8, e9, e10, e11, e12, e13, e14, e15, e16, e17, e18, e19, e20, e21, e22, e23, e24, e25, e26, e27, e28, e29, e30, e31, e32, e33, e34]; exact h.vlr,
    by simp only [e0, e1, e2, e3, e4, e5, e6, e7, e8, e9, e10, e11, e12, e13, e14, e15, e16, e17, e18, e19, e20, e21, e22, e23, e24, e25, e26, e27, e28, e29, e30, e31, e32, e33, e34]; exact h.vyr,
    by simp only [e0, e1, e2, e3, e4, e5, e6, e7, e8, e9, e10, e11, e12, e13, e14, e15, e16, e17, e18, e19, e20, e21, e22, e23, e24, e25, e26, e27, e28, e29, e30, e31, e32, e33, e34]; exact h.vdr,
    by simp only [e0, e1, e2, e3, e4, e5, e6, e7, e8, e9, e10, e11, e12, e13, e14, e15, e16, e17, e18, e19, e20, e21, e22, e23, e24, e25, e26, e27, e28, e29, e30, e31, e32, e33, e34]; exact h.lft,
    by have z := h.mc; unfold mkd at z ⊢; simp only [e0, e1, e2, e3, e4, e5, e6, e7, e8, e9, e10, e11, e12, e13, e14, e15, e16, e17, e18, e19, e20, e21, e22, e23, e24, e25, e26, e27, e28, e29, e30, e31, e32, e33, e34, e35]; exact z,
    by have z := h.mp; unfold mkd at z ⊢; simp only [e0, e1, e2, e3, e4, e5, e6, e7, e8, e9, e10, e11, e12, e13, e14, e15, e16, e17, e18, e19, e20, e21, e22, e23, e24, e25, e26, e27, e28, e29, e30, e31, e32, e33, e34, e35]; exact z,
    by have z := h.mw; unfold mkd at z ⊢; simp only [e0, e1, e2, e3, e4, e5, e6, e7, e8, e9, e10, e11, e12, e13, e14, e15, e16, e17, e18, e19, e20, e21, e22, e23, e24, e25, e26, e27, e28, e29, e30, e31, e32, e33, e34, e35]; exact z,
    by have z := h.mv; unfold mkd at z ⊢; simp only [e0, e1, e2, e3, e4, e5, e6, e7, e8, e9, e10, e11, e12, e13, e14, e15, e16, e17, e18, e19, e20, e21, e22, e23, e24, e25, e26, e27, e28, e29, e30, e31, e32, e33, e34, e35]; exact z⟩

def IG (m : pMem) (g l d t n : Nat) : Prop :=
  (m.1 9 46 = nI d) ∧
  (m.1 2 5 = nI d) ∧
  (d ≤ 8) ∧
  (m.1 11 = m.1 95) ∧
  (m.1 12 = m.1 96) ∧
  (m.1 13 = m.1 97) ∧
  (m.1 14 = m.1 98) ∧
  (∀ i, i < d → ∃ k, k < l ∧ m.1 95 i = nI k) ∧
  (∀ i, i < d → ∃ k, 1 ≤ k ∧ k ≤ 9999 ∧ m.1 96 i = nI k) ∧
  (∀ i, i < d → m.1 97 i = -1 ∨ ∃ k, k < g ∧ m.1 97 i = nI k) ∧
  (∀ i, i < d → ∃ k, k ≤ 999 ∧ m.1 98 i = nI k) ∧
  (m.1 2 6 = mxF (m.1 98) d) ∧
  (m.1 9 51 = nI t) ∧
  (m.1 2 10 = nI t) ∧
  (t ≤ 8) ∧
  (m.1 15 = m.1 99) ∧
  (m.1 16 = m.1 100) ∧
  (∀ i, i < t → m.1 99 i = 0 → m.1 17 i = m.1 101 i) ∧
  (∀ i, i < t → ∃ k, k ≤ 2 ∧ m.1 99 i = nI k) ∧
  (∀ i, i < t → ∃ k, 1 ≤ k ∧ k ≤ 9999 ∧ m.1 100 i = nI k ∧ (m.1 99 i ≠ 1 → k = 1)) ∧
  (∀ i, i < t → m.1 99 i = 0 → ∃ k, k < g ∧ m.1 101 i = nI k) ∧
  (m.1 9 55 = nI n) ∧
  (m.1 5 3 = nI n) ∧
  (n ≤ 12) ∧
  (m.1 49 = m.1 102) ∧
  (m.1 50 = m.1 103) ∧
  (m.1 51 = m.1 104) ∧
  (∀ i, i < n → ∃ k, k < l ∧ m.1 102 i = nI k) ∧
  (∀ i, i < n → ∃ k, k < g ∧ m.1 103 i = nI k) ∧
  (∀ i, i < n → ∃ k, k < g ∧ m.1 104 i = nI k)
theorem IG.d9 {m : pMem} {g l d t n : Nat} (h : IG m g l d t n) : m.1 9 46 = nI d := h.1
theorem IG.d2 {m : pMem} {g l d t n : Nat} (h : IG m g l d t n) : m.1 2 5 = nI d := h.2.1
theorem IG.dle {m : pMem} {g l d t n : Nat} (h : IG m g l d t n) : d ≤ 8 := h.2.2.1
theorem IG.dl {m : pMem} {g l d t n : Nat} (h : IG m g l d t n) : m.1 11 = m.1 95 := h.2.2.2.1
theorem IG.dsu {m : pMem} {g l d t n : Nat} (h : IG m g l d t n) : m.1 12 = m.1 96 := h.2.2.2.2.1
theorem IG.dg {m : pMem} {g l d t n : Nat} (h : IG m g l d t n) : m.1 13 = m.1 97 := h.2.2.2.2.2.1
theorem IG.dd {m : pMem} {g l d t n : Nat} (h : IG m g l d t n) : m.1 14 = m.1 98 := h.2.2.2.2.2.2.1
theorem IG.dlr {m : pMem} {g l d t n : Nat} (h : IG m g l d t n) : ∀ i, i < d → ∃ k, k < l ∧ m.1 95 i = nI k := h.2.2.2.2.2.2.2.1
theorem IG.dsr {m : pMem} {g l d t n : Nat} (h : IG m g l d t n) : ∀ i, i < d → ∃ k, 1 ≤ k ∧ k ≤ 9999 ∧ m.1 96 i = nI k := h.2.2.2.2.2.2.2.2.1
theorem IG.dgr {m : pMem} {g l d t n : Nat} (h : IG m g l d t n) : ∀ i, i < d → m.1 97 i = -1 ∨ ∃ k, k < g ∧ m.1 97 i = nI k := h.2.2.2.2.2.2.2.2.2.1
theorem IG.ddr {m : pMem} {g l d t n : Nat} (h : IG m g l d t n) : ∀ i, i < d → ∃ k, k ≤ 999 ∧ m.1 98 i = nI k := h.2.2.2.2.2.2.2.2.2.2.1
theorem IG.lat {m : pMem} {g l d t n : Nat} (h : IG m g l d t n) : m.1 2 6 = mxF (m.1 98) d := h.2.2.2.2.2.2.2.2.2.2.2.1
theorem IG.t9 {m : pMem} {g l d t n : Nat} (h : IG m g l d t n) : m.1 9 51 = nI t := h.2.2.2.2.2.2.2.2.2.2.2.2.1
theorem IG.t2 {m : pMem} {g l d t n : Nat} (h : IG m g l d t n) : m.1 2 10 = nI t := h.2.2.2.2.2.2.2.2.2.2.2.2.2.1
theorem IG.tle {m : pMem} {g l d t n : Nat} (h : IG m g l d t n) : t ≤ 8 := h.2.2.2.2.2.2.2.2.2.2.2.2.2.2.1
theorem IG.tk {m : pMem} {g l d t n : Nat} (h : IG m g l d t n) : m.1 15 = m.1 99 := h.2.2.2.2.2.2.2.2.2.2.2.2.2.2.2.1
theorem IG.tm {m : pMem} {g l d t n : Nat} (h : IG m g l d t n) : m.1 16 = m.1 100 := h.2.2.2.2.2.2.2.2.2.2.2.2.2.2.2.2.1
theorem IG.tp {m : pMem} {g l d t n : Nat} (h : IG m g l d t n) : ∀ i, i < t → m.1 99 i = 0 → m.1 17 i = m.1 101 i := h.2.2.2.2.2.2.2.2.2.2.2.2.2.2.2.2.2.1
theorem IG.tkr {m : pMem} {g l d t n : Nat} (h : IG m g l d t n) : ∀ i, i < t → ∃ k, k ≤ 2 ∧ m.1 99 i = nI k := h.2.2.2.2.2.2.2.2.2.2.2.2.2.2.2.2.2.2.1
theorem IG.tmr {m : pMem} {g l d t n : Nat} (h : IG m g l d t n) : ∀ i, i < t → ∃ k, 1 ≤ k ∧ k ≤ 9999 ∧ m.1 100 i = nI k ∧ (m.1 99 i ≠ 1 → k = 1) := h.2.2.2.2.2.2.2.2.2.2.2.2.2.2.2.2.2.2.2.1
theorem IG.tgr {m : pMem} {g l d t n : Nat} (h : IG m g l d t n) : ∀ i, i < t → m.1 99 i = 0 → ∃ k, k < g ∧ m.1 101 i = nI k := h.2.2.2.2.2.2.2.2.2.2.2.2.2.2.2.2.2.2.2.2.1
theorem IG.n9 {m : pMem} {g l d t n : Nat} (h : IG m g l d t n) : m.1 9 55 = nI n := h.2.2.2.2.2.2.2.2.2.2.2.2.2.2.2.2.2.2.2.2.2.1
theorem IG.n5 {m : pMem} {g l d t n : Nat} (h : IG m g l d t n) : m.1 5 3 = nI n := h.2.2.2.2.2.2.2.2.2.2.2.2.2.2.2.2.2.2.2.2.2.2.1
theorem IG.nle {m : pMem} {g l d t n : Nat} (h : IG m g l d t n) : n ≤ 12 := h.2.2.2.2.2.2.2.2.2.2.2.2.2.2.2.2.2.2.2.2.2.2.2.1
theorem IG.nl {m : pMem} {g l d t n : Nat} (h : IG m g l d t n) : m.1 49 = m.1 102 := h.2.2.2.2.2.2.2.2.2.2.2.2.2.2.2.2.2.2.2.2.2.2.2.2.1
theorem IG.nb {m : pMem} {g l d t n : Nat} (h : IG m g l d t n) : m.1 50 = m.1 103 := h.2.2.2.2.2.2.2.2.2.2.2.2.2.2.2.2.2.2.2.2.2.2.2.2.2.1
theorem IG.nw {m : pMem} {g l d t n : Nat} (h : IG m g l d t n) : m.1 51 = m.1 104 := h.2.2.2.2.2.2.2.2.2.2.2.2.2.2.2.2.2.2.2.2.2.2.2.2.2.2.1
theorem IG.nlr {m : pMem} {g l d t n : Nat} (h : IG m g l d t n) : ∀ i, i < n → ∃ k, k < l ∧ m.1 102 i = nI k := h.2.2.2.2.2.2.2.2.2.2.2.2.2.2.2.2.2.2.2.2.2.2.2.2.2.2.2.1
theorem IG.nbr {m : pMem} {g l d t n : Nat} (h : IG m g l d t n) : ∀ i, i < n → ∃ k, k < g ∧ m.1 103 i = nI k := h.2.2.2.2.2.2.2.2.2.2.2.2.2.2.2.2.2.2.2.2.2.2.2.2.2.2.2.2.1
theorem IG.nwr {m : pMem} {g l d t n : Nat} (h : IG m g l d t n) : ∀ i, i < n → ∃ k, k < g ∧ m.1 104 i = nI k := h.2.2.2.2.2.2.2.2.2.2.2.2.2.2.2.2.2.2.2.2.2.2.2.2.2.2.2.2.2
def IG.same (m m' : pMem) : Prop := m'.1 2 5 = m.1 2 5 ∧ m'.1 2 6 = m.1 2 6 ∧ m'.1 2 10 = m.1 2 10 ∧ m'.1 5 3 = m.1 5 3 ∧ m'.1 9 46 = m.1 9 46 ∧ m'.1 9 51 = m.1 9 51 ∧ m'.1 9 55 = m.1 9 55 ∧ m'.1 11 = m.1 11 ∧ m'.1 12 = m.1 12 ∧ m'.1 13 = m.1 13 ∧ m'.1 14 = m.1 14 ∧ m'.1 15 = m.1 15 ∧ m'.1 16 = m.1 16 ∧ m'.1 17 = m.1 17 ∧ m'.1 49 = m.1 49 ∧ m'.1 50 = m.1 50 ∧ m'.1 51 = m.1 51 ∧ m'.1 95 = m.1 95 ∧ m'.1 96 = m.1 96 ∧ m'.1 97 = m.1 97 ∧ m'.1 98 = m.1 98 ∧ m'.1 99 = m.1 99 ∧ m'.1 100 = m.1 100 ∧ m'.1 101 = m.1 101 ∧ m'.1 102 = m.1 102 ∧ m'.1 103 = m.1 103 ∧ m'.1 104 = m.1 104
theorem IG.congr {m m' : pMem} {g l d t n : Nat} (h : IG m g l d t n) (s : IG.same m m') : IG m' g l d t n := by
  obtain ⟨e0, e1, e2, e3, e4, e5, e6, e7, e8, e9, e10, e11, e12, e13, e14, e15, e16, e17, e18, e19, e20, e21, e22, e23, e24, e25, e26⟩ := s
  exact ⟨by simp only [e0, e1, e2, e3, e4, e5, e6, e7, e8, e9, e10, e11, e12, e13, e14, e15, e16, e17, e18, e19, e20, e21, e22, e23, e24, e25, e26]; exact h.d9,
    by simp only [e0, e1, e2, e3, e4, e5, e6, e7, e8, e9, e10, e11, e12, e13, e14, e15, e16, e17, e18, e19, e20, e21, e22, e23, e24, e25, e26]; exact h.d2,
    h.dle,
    by simp only [e0, e1, e2, e3, e4, e5, e6, e7, e8, e9, e10, e11, e12, e13, e14, e15, e16, e17, e18, e19, e20, e21, e22, e23, e24, e25, e26]; exact h.dl,
    by simp only [e0, e1, e2, e3, e4, e5, e6, e7, e8, e9, e10, e11, e12, e13, e14, e15, e16, e17, e18, e19, e20, e21, e22, e23, e24, e25, e26]; exact h.dsu,
    by simp only [e0, e1, e2, e3, e4, e5, e6, e7, e8, e9, e10, e11, e12, e13, e14, e15, e16, e17, e18, e19, e20, e21, e22, e23, e24, e25, e26]; exact h.dg,
    by simp only [e0, e1, e2, e3, e4, e5, e6, e7, e8, e9, e10, e11, e12, e13, e14, e15, e16, e17, e18, e19, e20, e21, e22, e23, e24, e25, e26]; exact h.dd,
    by simp only [e0, e1, e2, e3, e4, e5, e6, e7, e8, e9, e10, e11, e12, e13, e14, e15, e16, e17, e18, e19, e20, e21, e22, e23, e24, e25, e26]; exact h.dlr,
    by simp only [e0, e1, e2, e3, e4, e5, e6, e7, e8, e9, e10, e11, e12, e13, e14, e15, e16, e17, e18, e19, e20, e21, e22, e23, e24, e25, e26]; exact h.dsr,
    by simp only [e0, e1, e2, e3, e4, e5, e6, e7, e8, e9, e10, e11, e12, e13, e14, e15, e16, e17, e18, e19, e20, e21, e22, e23, e24, e25, e26]; exact h.dgr,
    by simp only [e0, e1, e2, e3, e4, e5, e6, e7, e8, e9, e10, e11, e12, e13, e14, e15, e16, e17, e18, e19, e20, e21, e22, e23, e24, e25, e26]; exact h.ddr,
    by simp only [e0, e1, e2, e3, e4, e5, e6, e7, e8, e9, e10, e11, e12, e13, e14, e15, e16, e17, e18, e19, e20, e21, e22, e23, e24, e25, e26]; exact h.lat,
    by simp only [e0, e1, e2, e3, e4, e5, e6, e7, e8, e9, e10, e11, e12, e13, e14, e15, e16, e17, e18, e19, e20, e21, e22, e23, e24, e25, e26]; exact h.t9,
    by simp only [e0, e1, e2, e3, e4, e5, e6, e7, e8, e9, e10, e11, e12, e13, e14, e15, e16, e17, e18, e19, e20, e21, e22, e23, e24, e25, e26]; exact h.t2,
    h.tle,
    by simp only [e0, e1, e2, e3, e4, e5, e6, e7, e8, e9, e10, e11, e12, e13, e14, e15, e16, e17, e18, e19, e20, e21, e22, e23, e24, e25, e26]; exact h.tk,
    by simp only [e0, e1, e2, e3, e4, e5, e6, e7, e8, e9, e10, e11, e12, e13, e14, e15, e16, e17, e18, e19, e20, e21, e22, e23, e24, e25, e26]; exact h.tm,
    by simp only [e0, e1, e2, e3, e4, e5, e6, e7, e8, e9, e10, e11, e12, e13, e14, e15, e16, e17, e18, e19, e20, e21, e22, e23, e24, e25, e26]; exact h.tp,
    by simp only [e0, e1, e2, e3, e4, e5, e6, e7, e8, e9, e10, e11, e12, e13, e14, e15, e16, e17, e18, e19, e20, e21, e22, e23, e24, e25, e26]; exact h.tkr,
    by simp only [e0, e1, e2, e3, e4, e5, e6, e7, e8, e9, e10, e11, e12, e13, e14, e15, e16, e17, e18, e19, e20, e21, e22, e23, e24, e25, e26]; exact h.tmr,
    by simp only [e0, e1, e2, e3, e4, e5, e6, e7, e8, e9, e10, e11, e12, e13, e14, e15, e16, e17, e18, e19, e20, e21, e22, e23, e24, e25, e26]; exact h.tgr,
    by simp only [e0, e1, e2, e3, e4, e5, e6, e7, e8, e9, e10, e11, e12, e13, e14, e15, e16, e17, e18, e19, e20, e21, e22, e23, e24, e25, e26]; exact h.n9,
    by simp only [e0, e1, e2, e3, e4, e5, e6, e7, e8, e9, e10, e11, e12, e13, e14, e15, e16, e17, e18, e19, e20, e21, e22, e23, e24, e25, e26]; exact h.n5,
    h.nle,
    by simp only [e0, e1, e2, e3, e4, e5, e6, e7, e8, e9, e10, e11, e12, e13, e14, e15, e16, e17, e18, e19, e20, e21, e22, e23, e24, e25, e26]; exact h.nl,
    by simp only [e0, e1, e2, e3, e4, e5, e6, e7, e8, e9, e10, e11, e12, e13, e14, e15, e16, e17, e18, e19, e20, e21, e22, e23, e24, e25, e26]; exact h.nb,
    by simp only [e0, e1, e2, e3, e4, e5, e6, e7, e8, e9, e10, e11, e12, e13, e14, e15, e16, e17, e18, e19, e20, e21, e22, e23, e24, e25, e26]; exact h.nw,
    by simp only [e0, e1, e2, e3, e4, e5, e6, e7, e8, e9, e10, e11, e12, e13, e14, e15, e16, e17, e18, e19, e20, e21, e22, e23, e24, e25, e26]; exact h.nlr,
    by simp only [e0, e1, e2, e3, e4, e5, e6, e7, e8, e9, e10, e11, e12, e13, e14, e15, e16, e17, e18, e19, e20, e21, e22, e23, e24, e25, e26]; exact h.nbr,
    by simp only [e0, e1, e2, e3, e4, e5, e6, e7, e8, e9, e10, e11, e12, e13, e14, e15, e16, e17, e18, e19, e20, e21, e22, e23, e24, e25, e26]; exact h.nwr⟩

def Inv (m : pMem) : Prop := ∃ c g l p w v d t n b : Nat, IH m c g l ∧ IT m b ∧ IP m c g l p w v ∧ IG m g l d t n
/-- the beginning -/
theorem IH_0 : IH m0 0 0 1 := by
  refine ⟨rfl, rfl, by omega, rfl, rfl, by omega, rfl, rfl, by omega, rfl, rfl, rfl, rfl, rfl, rfl, rfl, rfl, rfl, rfl, rfl, fun i h => absurd h (Nat.not_lt_zero _), fun i h => absurd h (Nat.not_lt_zero _), fun i h => absurd h (Nat.not_lt_zero _), fun i h => absurd h (Nat.not_lt_zero _), fun i j _ h => absurd h (Nat.not_lt_zero _), fun i h => absurd h (Nat.not_lt_zero _), fun i h => absurd h (Nat.not_lt_zero _), fun i h => absurd h (Nat.not_lt_zero _), fun i h => absurd h (Nat.not_lt_zero _), fun i _ => rfl, fun i h => absurd h (Nat.not_lt_zero _), rfl, fun i h => absurd h (Nat.not_lt_zero _), ?_, rfl, rfl, fun i h => absurd h (Nat.not_lt_zero _), fun i h => absurd h (Nat.not_lt_zero _), rfl, fun i h => absurd h (Nat.not_lt_zero _), ?_⟩
  · intro j hj q hq
    have : j = 0 := by omega
    subst this
    rfl
  · intro q hq
    have : q = 0 := by omega
    subst this
    exact Or.inl ⟨rfl, fun j h => absurd h (Nat.not_lt_zero _)⟩
theorem Inv_0 : Inv m0 := by
  have z : ∀ {P : Nat → Prop} (i : Nat), i < 0 → P i := fun i h => absurd h (Nat.not_lt_zero _)
  refine ⟨0, 0, 1, 0, 0, 0, 0, 0, 0, 0, IH_0, ?_, ?_, ?_⟩
  · exact ⟨rfl, rfl, by omega, rfl, rfl, Or.inl (by decide), Or.inl (by decide), ⟨100, by omega, by decide⟩, ⟨0, by omega, by decide⟩, ⟨0, by omega, by decide⟩⟩
  · exact ⟨rfl, rfl, by omega, rfl, rfl, rfl, z, z, z, z, z, rfl, rfl, rfl, by omega, rfl, rfl, rfl, rfl, rfl, z, z, z, z, z, rfl, rfl, by omega, rfl, rfl, rfl, rfl, z, z, z, z, rfl, z, z, z, z⟩
  · exact ⟨rfl, rfl, by omega, rfl, rfl, rfl, rfl, z, z, z, z, rfl, rfl, rfl, by omega, rfl, rfl, z, z, z, z, rfl, rfl, by omega, rfl, rfl, rfl, z, z, z⟩
