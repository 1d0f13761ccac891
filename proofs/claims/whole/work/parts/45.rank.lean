/-! the part on pacts, words and voices, whatever is left out -/
def IQ (m : pMem) (c g l p w v : Nat) : Prop :=
  (m.1 9 26 = nI p) ∧
  (m.1 4 8 = nI p) ∧
  (p ≤ 12) ∧
  (m.1 44 = m.1 79) ∧
  (m.1 45 = m.1 80) ∧
  (m.1 47 = m.1 83) ∧
  (∀ i, i < p → m.1 79 i = 0 → m.1 46 i = m.1 82 i) ∧
  (∀ i, i < p → ∃ k, k ≤ 2 ∧ m.1 79 i = nI k) ∧
  (∀ i, i < p → ∃ k, k < l ∧ m.1 80 i = nI k) ∧
  (∀ i, i < p → m.1 79 i = 0 → ∃ k, k < g ∧ m.1 82 i = nI k) ∧
  (∀ i, i < p → ∃ k, k ≤ 999 ∧ m.1 83 i = nI k) ∧
  (m.1 4 9 = mxF (m.1 83) p) ∧
  (m.1 9 32 = nI w) ∧
  (m.1 8 5 = nI w) ∧
  (w ≤ 24) ∧
  (m.1 59 = m.1 84) ∧
  (m.1 60 = m.1 85) ∧
  (m.1 61 = m.1 87) ∧
  (m.1 62 = m.1 88) ∧
  (m.1 63 = m.1 86) ∧
  (∀ i, i < w → ∃ k, k < p ∧ m.1 84 i = nI k) ∧
  (∀ i, i < w → ∃ k, k < l ∧ m.1 85 i = nI k) ∧
  (∀ i, i < w → m.1 87 i = 0 ∨ m.1 87 i = 1) ∧
  (∀ i, i < w → m.1 88 i = 0 ∨ m.1 88 i = 1) ∧
  (∀ i, i < w → ∃ k, k ≤ 999 ∧ m.1 86 i = nI k) ∧
  (m.1 9 39 = nI v) ∧
  (m.1 7 4 = nI v) ∧
  (v ≤ 24) ∧
  (m.1 55 = m.1 89) ∧
  (m.1 56 = m.1 90) ∧
  (m.1 57 = m.1 92) ∧
  (m.1 58 = m.1 91) ∧
  (∀ i, i < v → ∃ k, k < 6 ∧ m.1 89 i = nI k) ∧
  (∀ i, i < v → ∃ k, k < l ∧ m.1 90 i = nI k) ∧
  (∀ i, i < v → m.1 92 i = 0 ∨ m.1 92 i = 1) ∧
  (∀ i, i < v → ∃ k, k ≤ 999 ∧ m.1 91 i = nI k) ∧
  (∀ j, j < c → ∀ k, k ≤ 999 → m.1 69 j = nI k → mkd m k) ∧
  (∀ i, i < p → ∀ k, k ≤ 999 → m.1 83 i = nI k → mkd m k) ∧
  (∀ i, i < w → ∀ k, k ≤ 999 → m.1 86 i = nI k → mkd m k) ∧
  (∀ i, i < v → ∀ k, k ≤ 999 → m.1 91 i = nI k → mkd m k)
theorem IQ.p9 {m : pMem} {c g l p w v : Nat} (h : IQ m c g l p w v) : m.1 9 26 = nI p := h.1
theorem IQ.p4 {m : pMem} {c g l p w v : Nat} (h : IQ m c g l p w v) : m.1 4 8 = nI p := h.2.1
theorem IQ.ple {m : pMem} {c g l p w v : Nat} (h : IQ m c g l p w v) : p ≤ 12 := h.2.2.1
theorem IQ.knd {m : pMem} {c g l p w v : Nat} (h : IQ m c g l p w v) : m.1 44 = m.1 79 := h.2.2.2.1
theorem IQ.sgn {m : pMem} {c g l p w v : Nat} (h : IQ m c g l p w v) : m.1 45 = m.1 80 := h.2.2.2.2.1
theorem IQ.day {m : pMem} {c g l p w v : Nat} (h : IQ m c g l p w v) : m.1 47 = m.1 83 := h.2.2.2.2.2.1
theorem IQ.plc {m : pMem} {c g l p w v : Nat} (h : IQ m c g l p w v) : ∀ i, i < p → m.1 79 i = 0 → m.1 46 i = m.1 82 i := h.2.2.2.2.2.2.1
theorem IQ.kr {m : pMem} {c g l p w v : Nat} (h : IQ m c g l p w v) : ∀ i, i < p → ∃ k, k ≤ 2 ∧ m.1 79 i = nI k := h.2.2.2.2.2.2.2.1
theorem IQ.lr {m : pMem} {c g l p w v : Nat} (h : IQ m c g l p w v) : ∀ i, i < p → ∃ k, k < l ∧ m.1 80 i = nI k := h.2.2.2.2.2.2.2.2.1
theorem IQ.gr {m : pMem} {c g l p w v : Nat} (h : IQ m c g l p w v) : ∀ i, i < p → m.1 79 i = 0 → ∃ k, k < g ∧ m.1 82 i = nI k := h.2.2.2.2.2.2.2.2.2.1
theorem IQ.dr {m : pMem} {c g l p w v : Nat} (h : IQ m c g l p w v) : ∀ i, i < p → ∃ k, k ≤ 999 ∧ m.1 83 i = nI k := h.2.2.2.2.2.2.2.2.2.2.1
theorem IQ.lat {m : pMem} {c g l p w v : Nat} (h : IQ m c g l p w v) : m.1 4 9 = mxF (m.1 83) p := h.2.2.2.2.2.2.2.2.2.2.2.1
theorem IQ.w9 {m : pMem} {c g l p w v : Nat} (h : IQ m c g l p w v) : m.1 9 32 = nI w := h.2.2.2.2.2.2.2.2.2.2.2.2.1
theorem IQ.w8 {m : pMem} {c g l p w v : Nat} (h : IQ m c g l p w v) : m.1 8 5 = nI w := h.2.2.2.2.2.2.2.2.2.2.2.2.2.1
theorem IQ.wle {m : pMem} {c g l p w v : Nat} (h : IQ m c g l p w v) : w ≤ 24 := h.2.2.2.2.2.2.2.2.2.2.2.2.2.2.1
theorem IQ.wp {m : pMem} {c g l p w v : Nat} (h : IQ m c g l p w v) : m.1 59 = m.1 84 := h.2.2.2.2.2.2.2.2.2.2.2.2.2.2.2.1
theorem IQ.wl {m : pMem} {c g l p w v : Nat} (h : IQ m c g l p w v) : m.1 60 = m.1 85 := h.2.2.2.2.2.2.2.2.2.2.2.2.2.2.2.2.1
theorem IQ.wt {m : pMem} {c g l p w v : Nat} (h : IQ m c g l p w v) : m.1 61 = m.1 87 := h.2.2.2.2.2.2.2.2.2.2.2.2.2.2.2.2.2.1
theorem IQ.wy {m : pMem} {c g l p w v : Nat} (h : IQ m c g l p w v) : m.1 62 = m.1 88 := h.2.2.2.2.2.2.2.2.2.2.2.2.2.2.2.2.2.2.1
theorem IQ.wd {m : pMem} {c g l p w v : Nat} (h : IQ m c g l p w v) : m.1 63 = m.1 86 := h.2.2.2.2.2.2.2.2.2.2.2.2.2.2.2.2.2.2.2.1
theorem IQ.wpr {m : pMem} {c g l p w v : Nat} (h : IQ m c g l p w v) : ∀ i, i < w → ∃ k, k < p ∧ m.1 84 i = nI k := h.2.2.2.2.2.2.2.2.2.2.2.2.2.2.2.2.2.2.2.2.1
theorem IQ.wlr {m : pMem} {c g l p w v : Nat} (h : IQ m c g l p w v) : ∀ i, i < w → ∃ k, k < l ∧ m.1 85 i = nI k := h.2.2.2.2.2.2.2.2.2.2.2.2.2.2.2.2.2.2.2.2.2.1
theorem IQ.wtr {m : pMem} {c g l p w v : Nat} (h : IQ m c g l p w v) : ∀ i, i < w → m.1 87 i = 0 ∨ m.1 87 i = 1 := h.2.2.2.2.2.2.2.2.2.2.2.2.2.2.2.2.2.2.2.2.2.2.1
theorem IQ.wyr {m : pMem} {c g l p w v : Nat} (h : IQ m c g l p w v) : ∀ i, i < w → m.1 88 i = 0 ∨ m.1 88 i = 1 := h.2.2.2.2.2.2.2.2.2.2.2.2.2.2.2.2.2.2.2.2.2.2.2.1
theorem IQ.wdr {m : pMem} {c g l p w v : Nat} (h : IQ m c g l p w v) : ∀ i, i < w → ∃ k, k ≤ 999 ∧ m.1 86 i = nI k := h.2.2.2.2.2.2.2.2.2.2.2.2.2.2.2.2.2.2.2.2.2.2.2.2.1
theorem IQ.v9 {m : pMem} {c g l p w v : Nat} (h : IQ m c g l p w v) : m.1 9 39 = nI v := h.2.2.2.2.2.2.2.2.2.2.2.2.2.2.2.2.2.2.2.2.2.2.2.2.2.1
theorem IQ.v7 {m : pMem} {c g l p w v : Nat} (h : IQ m c g l p w v) : m.1 7 4 = nI v := h.2.2.2.2.2.2.2.2.2.2.2.2.2.2.2.2.2.2.2.2.2.2.2.2.2.2.1
theorem IQ.vle {m : pMem} {c g l p w v : Nat} (h : IQ m c g l p w v) : v ≤ 24 := h.2.2.2.2.2.2.2.2.2.2.2.2.2.2.2.2.2.2.2.2.2.2.2.2.2.2.2.1
theorem IQ.vt {m : pMem} {c g l p w v : Nat} (h : IQ m c g l p w v) : m.1 55 = m.1 89 := h.2.2.2.2.2.2.2.2.2.2.2.2.2.2.2.2.2.2.2.2.2.2.2.2.2.2.2.2.1
theorem IQ.vl {m : pMem} {c g l p w v : Nat} (h : IQ m c g l p w v) : m.1 56 = m.1 90 := h.2.2.2.2.2.2.2.2.2.2.2.2.2.2.2.2.2.2.2.2.2.2.2.2.2.2.2.2.2.1
theorem IQ.vy {m : pMem} {c g l p w v : Nat} (h : IQ m c g l p w v) : m.1 57 = m.1 92 := h.2.2.2.2.2.2.2.2.2.2.2.2.2.2.2.2.2.2.2.2.2.2.2.2.2.2.2.2.2.2.1
theorem IQ.vd {m : pMem} {c g l p w v : Nat} (h : IQ m c g l p w v) : m.1 58 = m.1 91 := h.2.2.2.2.2.2.2.2.2.2.2.2.2.2.2.2.2.2.2.2.2.2.2.2.2.2.2.2.2.2.2.1
theorem IQ.vtr {m : pMem} {c g l p w v : Nat} (h : IQ m c g l p w v) : ∀ i, i < v → ∃ k, k < 6 ∧ m.1 89 i = nI k := h.2.2.2.2.2.2.2.2.2.2.2.2.2.2.2.2.2.2.2.2.2.2.2.2.2.2.2.2.2.2.2.2.1
theorem IQ.vlr {m : pMem} {c g l p w v : Nat} (h : IQ m c g l p w v) : ∀ i, i < v → ∃ k, k < l ∧ m.1 90 i = nI k := h.2.2.2.2.2.2.2.2.2.2.2.2.2.2.2.2.2.2.2.2.2.2.2.2.2.2.2.2.2.2.2.2.2.1
theorem IQ.vyr {m : pMem} {c g l p w v : Nat} (h : IQ m c g l p w v) : ∀ i, i < v → m.1 92 i = 0 ∨ m.1 92 i = 1 := h.2.2.2.2.2.2.2.2.2.2.2.2.2.2.2.2.2.2.2.2.2.2.2.2.2.2.2.2.2.2.2.2.2.2.1
theorem IQ.vdr {m : pMem} {c g l p w v : Nat} (h : IQ m c g l p w v) : ∀ i, i < v → ∃ k, k ≤ 999 ∧ m.1 91 i = nI k := h.2.2.2.2.2.2.2.2.2.2.2.2.2.2.2.2.2.2.2.2.2.2.2.2.2.2.2.2.2.2.2.2.2.2.2.1
theorem IQ.mc {m : pMem} {c g l p w v : Nat} (h : IQ m c g l p w v) : ∀ j, j < c → ∀ k, k ≤ 999 → m.1 69 j = nI k → mkd m k := h.2.2.2.2.2.2.2.2.2.2.2.2.2.2.2.2.2.2.2.2.2.2.2.2.2.2.2.2.2.2.2.2.2.2.2.2.1
theorem IQ.mp {m : pMem} {c g l p w v : Nat} (h : IQ m c g l p w v) : ∀ i, i < p → ∀ k, k ≤ 999 → m.1 83 i = nI k → mkd m k := h.2.2.2.2.2.2.2.2.2.2.2.2.2.2.2.2.2.2.2.2.2.2.2.2.2.2.2.2.2.2.2.2.2.2.2.2.2.1
theorem IQ.mw {m : pMem} {c g l p w v : Nat} (h : IQ m c g l p w v) : ∀ i, i < w → ∀ k, k ≤ 999 → m.1 86 i = nI k → mkd m k := h.2.2.2.2.2.2.2.2.2.2.2.2.2.2.2.2.2.2.2.2.2.2.2.2.2.2.2.2.2.2.2.2.2.2.2.2.2.2.1
theorem IQ.mv {m : pMem} {c g l p w v : Nat} (h : IQ m c g l p w v) : ∀ i, i < v → ∀ k, k ≤ 999 → m.1 91 i = nI k → mkd m k := h.2.2.2.2.2.2.2.2.2.2.2.2.2.2.2.2.2.2.2.2.2.2.2.2.2.2.2.2.2.2.2.2.2.2.2.2.2.2.2
def IQ.same (m m' : pMem) : Prop := m'.1 4 8 = m.1 4 8 ∧ m'.1 4 9 = m.1 4 9 ∧ m'.1 7 4 = m.1 7 4 ∧ m'.1 8 5 = m.1 8 5 ∧ m'.1 9 26 = m.1 9 26 ∧ m'.1 9 32 = m.1 9 32 ∧ m'.1 9 39 = m.1 9 39 ∧ m'.1 44 = m.1 44 ∧ m'.1 45 = m.1 45 ∧ m'.1 46 = m.1 46 ∧ m'.1 47 = m.1 47 ∧ m'.1 55 = m.1 55 ∧ m'.1 56 = m.1 56 ∧ m'.1 57 = m.1 57 ∧ m'.1 58 = m.1 58 ∧ m'.1 59 = m.1 59 ∧ m'.1 60 = m.1 60 ∧ m'.1 61 = m.1 61 ∧ m'.1 62 = m.1 62 ∧ m'.1 63 = m.1 63 ∧ m'.1 69 = m.1 69 ∧ m'.1 79 = m.1 79 ∧ m'.1 80 = m.1 80 ∧ m'.1 82 = m.1 82 ∧ m'.1 83 = m.1 83 ∧ m'.1 84 = m.1 84 ∧ m'.1 85 = m.1 85 ∧ m'.1 86 = m.1 86 ∧ m'.1 87 = m.1 87 ∧ m'.1 88 = m.1 88 ∧ m'.1 89 = m.1 89 ∧ m'.1 90 = m.1 90 ∧ m'.1 91 = m.1 91 ∧ m'.1 92 = m.1 92 ∧ m'.2 10 = m.2 10
theorem IQ.congr {m m' : pMem} {c g l p w v : Nat} (h : IQ m c g l p w v) (s : IQ.same m m') : IQ m' c g l p w v := by
  obtain ⟨e0, e1, e2, e3, e4, e5, e6, e7, e8, e9, e10, e11, e12, e13, e14, e15, e16, e17, e18, e19, e20, e21, e22, e23, e24, e25, e26, e27, e28, e29, e30, e31, e32, e33, e34⟩ := s
  exact ⟨by simp only [e0, e1, e2, e3, e4, e5, e6, e7, e8, e9, e10, e11, e12, e13, e14, e15, e16, e17, e18, e19, e20, e21, e22, e23, e24, e25, e26, e27, e28, e29, e30, e31, e32, e33]; exact h.p9,
    by simp only [e0, e1, e2, e3, e4, e5, e6, e7, e8, e9, e10, e11, e12, e13, e14, e15, e16, e17, e18, e19, e20, e21, e22, e23, e24, e25, e26, e27, e28, e29, e30, e31, e32, e33]; exact h.p4,
    h.ple,
    by simp only [e0, e1, e2, e3, e4, e5, e6, e7, e8, e9, e10, e11, e12, e13, e14, e15, e16, e17, e18, e19, e20, e21, e22, e23, e24, e25, e26, e27, e28, e29, e30, e31, e32, e33]; exact h.knd,
    by simp only [e0, e1, e2, e3, e4, e5, e6, e7, e8, e9, e10, e11, e12, e13, e14, e15, e16, e17, e18, e19, e20, e21, e22, e23, e24, e25, e26, e27, e28, e29, e30, e31, e32, e33]; exact h.sgn,
    by simp only [e0, e1, e2, e3, e4, e5, e6, e7, e8, e9, e10, e11, e12, e13, e14, e15, e16, e17, e18, e19, e20, e21, e22, e23, e24, e25, e26, e27, e28, e29, e30, e31, e32, e33]; exact h.day,
    by simp only [e0, e1, e2, e3, e4, e5, e6, e7, e8, e9, e10, e11, e12, e13, e14, e15, e16, e17, e18, e19, e20, e21, e22, e23, e24, e25, e26, e27, e28, e29, e30, e31, e32, e33]; exact h.plc,
    by simp only [e0, e1, e2, e3, e4, e5, e6, e7, e8, e9, e10, e11, e12, e13, e14, e15, e16, e17, e18, e19, e20, e21, e22, e23, e24, e25, e26, e27, e28, e29, e30, e31, e32, e33]; exact h.kr,
    by simp only [e0, e1, e2, e3, e4, e5, e6, e7, e8, e9, e10, e11, e12, e13, e14, e15, e16, e17, e18, e19, e20, e21, e22, e23, e24, e25, e26, e27, e28, e29, e30, e31, e32, e33]; exact h.lr,
    by simp only [e0, e1, e2, e3, e4, e5, e6, e7, e8, e9, e10, e11, e12, e13, e14, e15, e16, e17, e18, e19, e20, e21, e22, e23, e24, e25, e26, e27, e28, e29, e30, e31, e32, e33]; exact h.gr,
    by simp only [e0, e1, e2, e3, e4, e5, e6, e7, e8, e9, e10, e11, e12, e13, e14, e15, e16, e17, e18, e19, e20, e21, e22, e23, e24, e25, e26, e27, e28, e29, e30, e31, e32, e33]; exact h.dr,
    by simp only [e0, e1, e2, e3, e4, e5, e6, e7, e8, e9, e10, e11, e12, e13, e14, e15, e16, e17, e18, e19, e20, e21, e22, e23, e24, e25, e26, e27, e28, e29, e30, e31, e32, e33]; exact h.lat,
    by simp only [e0, e1, e2, e3, e4, e5, e6, e7, e8, e9, e10, e11, e12, e13, e14, e15, e16, e17, e18, e19, e20, e21, e22, e23, e24, e25, e26, e27, e28, e29, e30, e31, e32, e33]; exact h.w9,
    by simp only [e0, e1, e2, e3, e4, e5, e6, e7, e8, e9, e10, e11, e12, e13, e14, e15, e16, e17, e18, e19, e20, e21, e22, e23, e24, e25, e26, e27, e28, e29, e30, e31, e32, e33]; exact h.w8,
    h.wle,
    by simp only [e0, e1, e2, e3, e4, e5, e6, e7, e8, e9, e10, e11, e12, e13, e14, e15, e16, e17, e18, e19, e20, e21, e22, e23, e24, e25, e26, e27, e28, e29, e30, e31, e32, e33]; exact h.wp,
    by simp only [e0, e1, e2, e3, e4, e5, e6, e7, e8, e9, e10, e11, e12, e13, e14, e15, e16, e17, e18, e19, e20, e21, e22, e23, e24, e25, e26, e27, e28, e29, e30, e31, e32, e33]; exact h.wl,
    by simp only [e0, e1, e2, e3, e4, e5, e6, e7, e8, e9, e10, e11, e12, e13, e14, e15, e16, e17, e18, e19, e20, e21, e22, e23, e24, e25, e26, e27, e28, e29, e30, e31, e32, e33]; exact h.wt,
    by simp only [e0, e1, e2, e3, e4, e5, e6, e7, e8, e9, e10, e11, e12, e13, e14, e15, e16, e17, e18, e19, e20, e21, e22, e23, e24, e25, e26, e27, e28, e29, e30, e31, e32, e33]; exact h.wy,
    by simp only [e0, e1, e2, e3, e4, e5, e6, e7, e8, e9, e10, e11, e12, e13, e14, e15, e16, e17, e18, e19, e20, e21, e22, e23, e24, e25, e26, e27, e28, e29, e30, e31, e32, e33]; exact h.wd,
    by simp only [e0, e1, e2, e3, e4, e5, e6, e7, e8, e9, e10, e11, e12, e13, e14, e15, e16, e17, e18, e19, e20, e21, e22, e23, e24, e25, e26, e27, e28, e29, e30, e31, e32, e33]; exact h.wpr,
    by simp only [e0, e1, e2, e3, e4, e5, e6, e7, e8, e9, e10, e11, e12, e13, e14, e15, e16, e17, e18, e19, e20, e21, e22, e23, e24, e25, e26, e27, e28, e29, e30, e31, e32, e33]; exact h.wlr,
    by simp only [e0, e1, e2, e3, e4, e5, e6, e7, e8, e9, e10, e11, e12, e13, e14, e15, e16, e17, e18, e19, e20, e21, e22, e23, e24, e25, e26, e27, e28, e29, e30, e31, e32, e33]; exact h.wtr,
    by simp only [e0, e1, e2, e3, e4, e5, e6, e7, e8, e9, e10, e11, e12, e13, e14, e15, e16, e17, e18, e19, e20, e21, e22, e23, e24, e25, e26, e27, e28, e29, e30, e31, e32, e33]; exact h.wyr,
    by simp only [e0, e1, e2, e3, e4, e5, e6, e7, e8, e9, e10, e11, e12, e13, e14, e15, e16, e17, e18, e19, e20, e21, e22, e23, e24, e25, e26, e27, e28, e29, e30, e31, e32, e33]; exact h.wdr,
    by simp only [e0, e1, e2, e3, e4, e5, e6, e7, e8, e9, e10, e11, e12, e13, e14, e15, e16, e17, e18, e19, e20, e21, e22, e23, e24, e25, e26, e27, e28, e29, e30, e31, e32, e33]; exact h.v9,
    by simp only [e0, e1, e2, e3, e4, e5, e6, e7, e8, e9, e10, e11, e12, e13, e14, e15, e16, e17, e18, e19, e20, e21, e22, e23, e24, e25, e26, e27, e28, e29, e30, e31, e32, e33]; exact h.v7,
    h.vle,
    by simp only [e0, e1, e2, e3, e4, e5, e6, e7, e8, e9, e10, e11, e12, e13, e14, e15, e16, e17, e18, e19, e20, e21, e22, e23, e24, e25, e26, e27, e28, e29, e30, e31, e32, e33]; exact h.vt,
    by simp only [e0, e1, e2, e3, e4, e5, e6, e7, e8, e9, e10, e11, e12, e13, e14, e15, e16, e17, e18, e19, e20, e21, e22, e23, e24, e25, e26, e27, e28, e29, e30, e31, e32, e33]; exact h.vl,
    by simp only [e0, e1, e2, e3, e4, e5, e6, e7, e8, e9, e10, e11, e12, e13, e14, e15, e16, e17, e18, e19, e20, e21, e22, e23, e24, e25, e26, e27, e28, e29, e30, e31, e32, e33]; exact h.vy,
    by simp only [e0, e1, e2, e3, e4, e5, e6, e7, e8, e9, e10, e11, e12, e13, e14, e15, e16, e17, e18, e19, e20, e21, e22, e23, e24, e25, e26, e27, e28, e29, e30, e31, e32, e33]; exact h.vd,
    by simp only [e0, e1, e2, e3, e4, e5, e6, e7, e8, e9, e10, e11, e12, e13, e14, e15, e16, e17, e18, e19, e20, e21, e22, e23, e24, e25, e26, e27, e28, e29, e30, e31, e32, e33]; exact h.vtr,
    by simp only [e0, e1, e2, e3, e4, e5, e6, e7, e8, e9, e10, e11, e12, e13, e14, e15, e16, e17, e18, e19, e20, e21, e22, e23, e24, e25, e26, e27, e28, e29, e30, e31, e32, e33]; exact h.vlr,
    by simp only [e0, e1, e2, e3, e4, e5, e6, e7, e8, e9, e10, e11, e12, e13, e14, e15, e16, e17, e18, e19, e20, e21, e22, e23, e24, e25, e26, e27, e28, e29, e30, e31, e32, e33]; exact h.vyr,
    by simp only [e0, e1, e2, e3, e4, e5, e6, e7, e8, e9, e10, e11, e12, e13, e14, e15, e16, e17, e18, e19, e20, e21, e22, e23, e24, e25, e26, e27, e28, e29, e30, e31, e32, e33]; exact h.vdr,
    by have z := h.mc; unfold mkd at z ⊢; simp only [e0, e1, e2, e3, e4, e5, e6, e7, e8, e9, e10, e11, e12, e13, e14, e15, e16, e17, e18, e19, e20, e21, e22, e23, e24, e25, e26, e27, e28, e29, e30, e31, e32, e33, e34]; exact z,
    by have z := h.mp; unfold mkd at z ⊢; simp only [e0, e1, e2, e3, e4, e5, e6, e7, e8, e9, e10, e11, e12, e13, e14, e15, e16, e17, e18, e19, e20, e21, e22, e23, e24, e25, e26, e27, e28, e29, e30, e31, e32, e33, e34]; exact z,
    by have z := h.mw; unfold mkd at z ⊢; simp only [e0, e1, e2, e3, e4, e5, e6, e7, e8, e9, e10, e11, e12, e13, e14, e15, e16, e17, e18, e19, e20, e21, e22, e23, e24, e25, e26, e27, e28, e29, e30, e31, e32, e33, e34]; exact z,
    by have z := h.mv; unfold mkd at z ⊢; simp only [e0, e1, e2, e3, e4, e5, e6, e7, e8, e9, e10, e11, e12, e13, e14, e15, e16, e17, e18, e19, e20, e21, e22, e23, e24, e25, e26, e27, e28, e29, e30, e31, e32, e33, e34]; exact z⟩

theorem IP.toQ {m : pMem} {c g l p w v : Nat} (h : IP m c g l p w v) : IQ m c g l p w v := ⟨h.p9,
    h.p4,
    h.ple,
    h.knd,
    h.sgn,
    h.day,
    h.plc,
    h.kr,
    h.lr,
    h.gr,
    h.dr,
    h.lat,
    h.w9,
    h.w8,
    h.wle,
    h.wp,
    h.wl,
    h.wt,
    h.wy,
    h.wd,
    h.wpr,
    h.wlr,
    h.wtr,
    h.wyr,
    h.wdr,
    h.v9,
    h.v7,
    h.vle,
    h.vt,
    h.vl,
    h.vy,
    h.vd,
    h.vtr,
    h.vlr,
    h.vyr,
    h.vdr,
    h.mc,
    h.mp,
    h.mw,
    h.mv⟩
theorem IQ.toP {m : pMem} {c g l p w v : Nat} (h : IQ m c g l p w v) (e : m.1 9 38 = 0) : IP m c g l p w v := ⟨h.p9,
    h.p4,
    h.ple,
    h.knd,
    h.sgn,
    h.day,
    h.plc,
    h.kr,
    h.lr,
    h.gr,
    h.dr,
    h.lat,
    h.w9,
    h.w8,
    h.wle,
    h.wp,
    h.wl,
    h.wt,
    h.wy,
    h.wd,
    h.wpr,
    h.wlr,
    h.wtr,
    h.wyr,
    h.wdr,
    h.v9,
    h.v7,
    h.vle,
    h.vt,
    h.vl,
    h.vy,
    h.vd,
    h.vtr,
    h.vlr,
    h.vyr,
    h.vdr,
    e,
    h.mc,
    h.mp,
    h.mw,
    h.mv⟩
/-! who is bound by rank -/
/-- said the same land in one of the first n changes -/
def sdB (m : pMem) (q : Int32) : Nat → Bool
  | 0 => false
  | n + 1 => sdB m q n || decide (m.1 68 n = 4 ∧ m.1 70 n = q)
theorem sdB_s (m : pMem) (q : Int32) (n : Nat) : sdB m q (n + 1) = (sdB m q n || decide (m.1 68 n = 4 ∧ m.1 70 n = q)) := rfl
theorem sdB_up {m : pMem} {q : Int32} {i : Nat} : ∀ {n : Nat}, i ≤ n → sdB m q i = true → sdB m q n = true
  | 0, h, hi => by rw [show i = 0 by omega] at hi; exact hi
  | n + 1, h, hi => by
    rcases Nat.lt_or_ge n i with z | z
    · rw [show n + 1 = i by omega]; exact hi
    · rw [sdB_s, sdB_up z hi]; rfl
theorem s2_s (f : Nat) : sX2_saidSame_l2 (f + 1) = sX2_saidSame_b2 (sX2_saidSame_l2 f) := rfl
theorem k3_s (f : Nat) : sX3_boundByRank_l3 (f + 1) = sX3_boundByRank_b3 (sX3_boundByRank_l3 f) := rfl
theorem k9_s (f : Nat) : sX9_byRank_l3 (f + 1) = sX9_byRank_b3 (sX9_byRank_l3 f) := rfl
theorem k44_s (k3 : Int32 → Int32 → Int32 → Int32 → pMem → Option Int32) (f : Nat) : sX9_byRank_l44 k3 (f + 1) = sX9_byRank_b44 k3 (sX9_byRank_l44 k3 f) := rfl
/-- one bit of a number -/
theorem b_only (x : Int32) {n : Nat} (hn : n < 31) : x &&& ((1 : Int32) <<< (nI n &&& 31)) = if bt x n = true then (1 : Int32) <<< (nI n &&& 31) else 0 := by
  apply b_ext
  intro i hi
  rw [b_and, b_one n (by omega) hi]
  by_cases e : bt x n = true
  · rw [if_pos e, b_one n (by omega) hi]
    by_cases f : i = n
    · rw [f, e]; simp
    · simp [f]
  · rw [if_neg e, b_0]
    by_cases f : i = n
    · rw [f]; simp only [Bool.not_eq_true] at e; rw [e]; rfl
    · simp [f]
theorem l_said {m : pMem} {c : Nat} (hc : c ≤ 12) (e1 : m.1 24 = m.1 68) (e2 : m.1 26 = m.1 70) (q : Int32) : ∀ (j i f : Nat), i + j = c → j < f → sdB m q i = false → sX2_saidSame_l2 f q (nI c) (nI i) m = some (bI (sdB m q c = true)) := by
  intro j
  induction j with
  | zero =>
    intro i f hij hf hs
    obtain ⟨f, rfl⟩ := fuel_s (Nat.lt_of_le_of_lt (Nat.zero_le _) hf)
    have : i = c := by omega
    subst this
    rw [s2_s]
    unfold sX2_saidSame_b2
    rw [if_pos (nI_le (Nat.le_refl _) (by omega)), bI_f (by rw [hs]; decide)]
  | succ j ih =>
    intro i f hij hf hs
    obtain ⟨f, rfl⟩ := fuel_s (Nat.lt_of_le_of_lt (Nat.zero_le _) hf)
    have e := ih (i + 1) f (by omega) (by omega)
    rw [sdB_s, hs] at e
    rw [s2_s]
    unfold sX2_saidSame_b2 sX2_saidSame_b29
    rw [if_neg (nI_ge (by omega) (by omega)), e1, e2]
    simp only [if_neg (noob (i := i) (n := 12) (by omega) (by omega)), nI_clamp (show i < 2 ^ 31 by omega), nI_1]
    by_cases a1 : m.1 68 i = 4
    · rw [if_neg (not_not_intro a1)]
      by_cases a2 : m.1 70 i = q
      · rw [if_neg (not_not_intro a2)]
        rw [bI_t (sdB_up (i := i + 1) (n := c) (by omega) (by rw [sdB_s]; simp [a1, a2]))]
      · rw [if_pos a2]
        exact e (by simp [a2])
    · rw [if_pos a1]
      exact e (by simp [a1])
theorem l_said9 {m : pMem} {c v : Nat} (hc : c ≤ 12) (hv : v ≤ 24) (h9 : m.1 9 39 = nI v) (k3 : Int32 → Int32 → Int32 → Int32 → pMem → Option Int32) (l1 d : Int32) (q : Nat) : ∀ (j i f : Nat), i + j = c → j < f → ∀ x, x = bI (sdB m (nI q) i = true) → sX9_byRank_l44 k3 f l1 (nI c) d (nI q) x (nI i) m = (if sdB m (nI q) c = true ∧ ¬ vS m v (nI q) d 6 ≤ 0 then some ((1 : Int32) <<< (nI q &&& 31)) else k3 l1 (nI c) d (nI (q + 1)) m) := by
  intro j
  induction j with
  | zero =>
    intro i f hij hf x hx
    obtain ⟨f, rfl⟩ := fuel_s (Nat.lt_of_le_of_lt (Nat.zero_le _) hf)
    have : i = c := by omega
    subst this
    rw [k44_s]
    unfold sX9_byRank_b44 sX9_byRank_b111
    rw [if_pos (nI_le (Nat.le_refl _) (by omega)), nI_1, hx]
    by_cases a : sdB m (nI q) i = true
    · rw [bI_t a, if_neg n10, p_rec9 hv h9, cbR_some]
      by_cases b : vS m v (nI q) d 6 ≤ 0
      · rw [bI_f (not_not_intro b), if_pos rfl, if_neg (fun z => z.2 b)]
      · rw [bI_t b, if_neg n10, if_pos ⟨a, b⟩]
    · rw [bI_f a, if_pos rfl, if_neg (fun z => a z.1)]
  | succ j ih =>
    intro i f hij hf x hx
    obtain ⟨f, rfl⟩ := fuel_s (Nat.lt_of_le_of_lt (Nat.zero_le _) hf)
    have e := ih (i + 1) f (by omega) (by omega)
    rw [k44_s]
    unfold sX9_byRank_b44 sX9_byRank_b78 sX9_byRank_b82 sX9_byRank_b83
    rw [if_neg (nI_ge (by omega) (by omega)), nI_1 i, hx]
    by_cases a : sdB m (nI q) i = true
    · rw [bI_t a, if_pos n10]
      exact e 1 (bI_t (by rw [sdB_s, a]; rfl)).symm
    · rw [bI_f a, if_neg nn0]
      simp only [if_neg (noob (i := i) (n := 12) (by omega) (by omega)), nI_clamp (show i < 2 ^ 31 by omega)]
      have a' : sdB m (nI q) i = false := by simpa using a
      by_cases a1 : m.1 68 i = 4
      · rw [if_neg (not_not_intro a1)]
        by_cases a2 : m.1 70 i = nI q
        · rw [if_neg (not_not_intro a2)]
          exact e 1 (bI_t (by rw [sdB_s]; simp [a1, a2])).symm
        · rw [if_pos a2]
          exact e 0 (bI_f (by rw [sdB_s, a']; simp [a2])).symm
      · rw [if_pos a1]
        exact e 0 (bI_f (by rw [sdB_s, a']; simp [a1])).symm
