/-! THE WORLD: one list of cells for both systems; a memory gives what they hold. THE JUDGEMENT gG: at this place, with these locals, this stack and this memory, the machine comes to its end. -/
abbrev pMem : Type := (Nat → Nat → Int32) × (Nat → Nat → Int64)
def up1 (m : pMem) (k : Nat) (f : Nat → Int32) : pMem := (fun q => if q = k then f else m.1 q, m.2)
def up2 (m : pMem) (k : Nat) (f : Nat → Int64) : pMem := (m.1, fun q => if q = k then f else m.2 q)
def st1 (m : pMem) (k j : Nat) (v : Int32) : pMem := up1 m k (upd (m.1 k) j v)
def st2 (m : pMem) (k j : Nat) (v : Int64) : pMem := up2 m k (vp_updL (m.2 k) j v)
/-- the launch; the classes' numbers and slots; the arrays' classes; the cells' addresses; the literals' and their bytes' addresses -/
abbrev pEv : Type := Launch × (Nat → ClassId) × (Nat → Nat → Nat) × (Nat → ClassId) × (Nat → Nat) × (Nat → Nat) × (Nat → Nat)
abbrev eL (E : pEv) : Launch := E.1
abbrev eD (E : pEv) : va_G := (E.2.1, E.2.2.1)
abbrev eC (E : pEv) : Nat → ClassId := E.2.2.2.1
abbrev eA (E : pEv) : Nat → Nat := E.2.2.2.2.1
abbrev eK (E : pEv) : Nat → Nat := E.2.2.2.2.2.1
abbrev eV (E : pEv) : Nat → Nat := E.2.2.2.2.2.2
def wG (E : pEv) (m : pMem) : va_W := [
  (eA E 0, .inr (8, [.ref (eA E 3), .ref (eA E 6), .ref (eA E 8), .ref (eA E 7), .ref (eA E 4), .ref (eA E 2), .ref (eA E 5), .ref (eA E 1)])),
  (eA E 1, .inr (0, [.ref (eA E 10)])),
  (eA E 2, .inr (1, [.ref (eA E 3), .ref (eA E 11), .ref (eA E 12), .ref (eA E 13), .ref (eA E 14), .int (m.1 2 5), .int (m.1 2 6), .ref (eA E 15), .ref (eA E 16), .ref (eA E 17), .int (m.1 2 10), .ref (eA E 18)])),
  (eA E 3, .inr (2, [.ref (eA E 19), .ref (eA E 20), .int (m.1 3 2), .ref (eA E 21), .ref (eA E 22), .ref (eA E 23), .int (m.1 3 6), .ref (eA E 24), .ref (eA E 25), .ref (eA E 26), .ref (eA E 27), .ref (eA E 28), .ref (eA E 106), .ref (eA E 107), .int (m.1 3 12), .ref (eA E 29), .ref (eA E 43)])),
  (eA E 4, .inr (3, [.ref (eA E 3), .ref (eA E 6), .ref (eA E 8), .ref (eA E 7), .ref (eA E 44), .ref (eA E 45), .ref (eA E 46), .ref (eA E 47), .int (m.1 4 8), .int (m.1 4 9), .int (m.1 4 10), .int (m.1 4 11), .ref (eA E 48)])),
  (eA E 5, .inr (4, [.ref (eA E 49), .ref (eA E 50), .ref (eA E 51), .int (m.1 5 3)])),
  (eA E 6, .inr (5, [.ref (eA E 52), .int (m.1 6 1), .ref (eA E 53), .int (m.1 6 3), .int (m.1 6 4), .int (m.1 6 5), .ref (eA E 54)])),
  (eA E 7, .inr (6, [.ref (eA E 55), .ref (eA E 56), .ref (eA E 57), .ref (eA E 58), .int (m.1 7 4)])),
  (eA E 8, .inr (7, [.ref (eA E 59), .ref (eA E 60), .ref (eA E 61), .ref (eA E 62), .ref (eA E 63), .int (m.1 8 5)])),
  (eA E 9, .inr (9, [.int (m.1 9 0), .ref (eA E 64), .ref (eA E 65), .int (m.1 9 3), .ref (eA E 66), .ref (eA E 67), .int (m.1 9 6), .ref (eA E 68), .ref (eA E 69), .ref (eA E 70), .ref (eA E 71), .ref (eA E 72), .ref (eA E 73), .ref (eA E 74), .ref (eA E 75), .int (m.1 9 15), .ref (eA E 76), .int (m.1 9 17), .int (m.1 9 18), .long (m.2 9 19), .int (m.1 9 20), .int (m.1 9 21), .int (m.1 9 22), .int (m.1 9 23), .ref (eA E 77), .ref (eA E 78), .int (m.1 9 26), .ref (eA E 79), .ref (eA E 80), .ref (eA E 81), .ref (eA E 82), .ref (eA E 83), .int (m.1 9 32), .ref (eA E 84), .ref (eA E 85), .ref (eA E 86), .ref (eA E 87), .ref (eA E 88), .int (m.1 9 38), .int (m.1 9 39), .ref (eA E 89), .ref (eA E 90), .ref (eA E 91), .ref (eA E 92), .ref (eA E 93), .ref (eA E 94), .int (m.1 9 46), .ref (eA E 95), .ref (eA E 96), .ref (eA E 97), .ref (eA E 98), .int (m.1 9 51), .ref (eA E 99), .ref (eA E 100), .ref (eA E 101), .int (m.1 9 55), .ref (eA E 102), .ref (eA E 103), .ref (eA E 104), .ref (eA E 105)])),
  (eA E 10, .inl (eC E 10, 16, .inr (.inl (m.2 10)))),
  (eA E 11, .inl (eC E 11, 8, .inl (m.1 11))),
  (eA E 12, .inl (eC E 12, 8, .inl (m.1 12))),
  (eA E 13, .inl (eC E 13, 8, .inl (m.1 13))),
  (eA E 14, .inl (eC E 14, 8, .inl (m.1 14))),
  (eA E 15, .inl (eC E 15, 8, .inl (m.1 15))),
  (eA E 16, .inl (eC E 16, 8, .inl (m.1 16))),
  (eA E 17, .inl (eC E 17, 8, .inl (m.1 17))),
  (eA E 18, .inl (eC E 18, 10, .inl (m.1 18))),
  (eA E 19, .inl (eC E 19, 8, .inl (m.1 19))),
  (eA E 20, .inl (eC E 20, 8, .inl (m.1 20))),
  (eA E 21, .inl (eC E 21, 10, .inl (m.1 21))),
  (eA E 22, .inl (eC E 22, 10, .inl (m.1 22))),
  (eA E 23, .inl (eC E 23, 10, .inl (m.1 23))),
  (eA E 24, .inl (eC E 24, 12, .inl (m.1 24))),
  (eA E 25, .inl (eC E 25, 12, .inl (m.1 25))),
  (eA E 26, .inl (eC E 26, 12, .inl (m.1 26))),
  (eA E 27, .inl (eC E 27, 12, .inl (m.1 27))),
  (eA E 28, .inl (eC E 28, 12, .inl (m.1 28))),
  (eA E 29, .inl (eC E 29, 13, .inr (.inr (.inr (.inr (fun i => if i < 13 then some (eA E (30 + i)) else none)))))),
  (eA E 30, .inl (eC E 30, 10, .inl (m.1 30))),
  (eA E 31, .inl (eC E 31, 10, .inl (m.1 31))),
  (eA E 32, .inl (eC E 32, 10, .inl (m.1 32))),
  (eA E 33, .inl (eC E 33, 10, .inl (m.1 33))),
  (eA E 34, .inl (eC E 34, 10, .inl (m.1 34))),
  (eA E 35, .inl (eC E 35, 10, .inl (m.1 35))),
  (eA E 36, .inl (eC E 36, 10, .inl (m.1 36))),
  (eA E 37, .inl (eC E 37, 10, .inl (m.1 37))),
  (eA E 38, .inl (eC E 38, 10, .inl (m.1 38))),
  (eA E 39, .inl (eC E 39, 10, .inl (m.1 39))),
  (eA E 40, .inl (eC E 40, 10, .inl (m.1 40))),
  (eA E 41, .inl (eC E 41, 10, .inl (m.1 41))),
  (eA E 42, .inl (eC E 42, 10, .inl (m.1 42))),
  (eA E 43, .inl (eC E 43, 13, .inl (m.1 43))),
  (eA E 44, .inl (eC E 44, 12, .inl (m.1 44))),
  (eA E 45, .inl (eC E 45, 12, .inl (m.1 45))),
  (eA E 46, .inl (eC E 46, 12, .inl (m.1 46))),
  (eA E 47, .inl (eC E 47, 12, .inl (m.1 47))),
  (eA E 48, .inl (eC E 48, 12, .inl (m.1 48))),
  (eA E 49, .inl (eC E 49, 12, .inl (m.1 49))),
  (eA E 50, .inl (eC E 50, 12, .inl (m.1 50))),
  (eA E 51, .inl (eC E 51, 12, .inl (m.1 51))),
  (eA E 52, .inl (eC E 52, 160, .inl (m.1 52))),
  (eA E 53, .inl (eC E 53, 5, .inl (m.1 53))),
  (eA E 54, .inl (eC E 54, 5, .inl (m.1 54))),
  (eA E 55, .inl (eC E 55, 24, .inl (m.1 55))),
  (eA E 56, .inl (eC E 56, 24, .inl (m.1 56))),
  (eA E 57, .inl (eC E 57, 24, .inl (m.1 57))),
  (eA E 58, .inl (eC E 58, 24, .inl (m.1 58))),
  (eA E 59, .inl (eC E 59, 24, .inl (m.1 59))),
  (eA E 60, .inl (eC E 60, 24, .inl (m.1 60))),
  (eA E 61, .inl (eC E 61, 24, .inl (m.1 61))),
  (eA E 62, .inl (eC E 62, 24, .inl (m.1 62))),
  (eA E 63, .inl (eC E 63, 24, .inl (m.1 63))),
  (eA E 64, .inl (eC E 64, 8, .inl (m.1 64))),
  (eA E 65, .inl (eC E 65, 8, .inl (m.1 65))),
  (eA E 66, .inl (eC E 66, 10, .inl (m.1 66))),
  (eA E 67, .inl (eC E 67, 10, .inl (m.1 67))),
  (eA E 68, .inl (eC E 68, 12, .inl (m.1 68))),
  (eA E 69, .inl (eC E 69, 12, .inl (m.1 69))),
  (eA E 70, .inl (eC E 70, 12, .inl (m.1 70))),
  (eA E 71, .inl (eC E 71, 12, .inl (m.1 71))),
  (eA E 72, .inl (eC E 72, 12, .inl (m.1 72))),
  (eA E 73, .inl (eC E 73, 12, .inl (m.1 73))),
  (eA E 74, .inl (eC E 74, 104, .inl (m.1 74))),
  (eA E 75, .inl (eC E 75, 13, .inl (m.1 75))),
  (eA E 76, .inl (eC E 76, 160, .inl (m.1 76))),
  (eA E 77, .inl (eC E 77, 5, .inl (m.1 77))),
  (eA E 78, .inl (eC E 78, 5, .inl (m.1 78))),
  (eA E 79, .inl (eC E 79, 12, .inl (m.1 79))),
  (eA E 80, .inl (eC E 80, 12, .inl (m.1 80))),
  (eA E 81, .inl (eC E 81, 12, .inl (m.1 81))),
  (eA E 82, .inl (eC E 82, 12, .inl (m.1 82))),
  (eA E 83, .inl (eC E 83, 12, .inl (m.1 83))),
  (eA E 84, .inl (eC E 84, 24, .inl (m.1 84))),
  (eA E 85, .inl (eC E 85, 24, .inl (m.1 85))),
  (eA E 86, .inl (eC E 86, 24, .inl (m.1 86))),
  (eA E 87, .inl (eC E 87, 24, .inl (m.1 87))),
  (eA E 88, .inl (eC E 88, 24, .inl (m.1 88))),
  (eA E 89, .inl (eC E 89, 24, .inl (m.1 89))),
  (eA E 90, .inl (eC E 90, 24, .inl (m.1 90))),
  (eA E 91, .inl (eC E 91, 24, .inl (m.1 91))),
  (eA E 92, .inl (eC E 92, 24, .inl (m.1 92))),
  (eA E 93, .inl (eC E 93, 12, .inl (m.1 93))),
  (eA E 94, .inl (eC E 94, 12, .inl (m.1 94))),
  (eA E 95, .inl (eC E 95, 8, .inl (m.1 95))),
  (eA E 96, .inl (eC E 96, 8, .inl (m.1 96))),
  (eA E 97, .inl (eC E 97, 8, .inl (m.1 97))),
  (eA E 98, .inl (eC E 98, 8, .inl (m.1 98))),
  (eA E 99, .inl (eC E 99, 8, .inl (m.1 99))),
  (eA E 100, .inl (eC E 100, 8, .inl (m.1 100))),
  (eA E 101, .inl (eC E 101, 8, .inl (m.1 101))),
  (eA E 102, .inl (eC E 102, 12, .inl (m.1 102))),
  (eA E 103, .inl (eC E 103, 12, .inl (m.1 103))),
  (eA E 104, .inl (eC E 104, 12, .inl (m.1 104))),
  (eA E 105, .inl (eC E 105, 10, .inl (m.1 105))),
  (eA E 106, .inl (eC E 106, 12, .inl (m.1 106))),
  (eA E 107, .inl (eC E 107, 12, .inl (m.1 107)))]
def tG (E : pEv) : List (ClassId × FieldType) := [(eC E 10, .long), (eC E 11, .int), (eC E 12, .int), (eC E 13, .int), (eC E 14, .int), (eC E 15, .int), (eC E 16, .int), (eC E 17, .int), (eC E 18, .int), (eC E 19, .int), (eC E 20, .int), (eC E 21, .int), (eC E 22, .int), (eC E 23, .int), (eC E 24, .int), (eC E 25, .int), (eC E 26, .int), (eC E 27, .int), (eC E 28, .int), (eC E 29, .array .int), (eC E 30, .int), (eC E 31, .int), (eC E 32, .int), (eC E 33, .int), (eC E 34, .int), (eC E 35, .int), (eC E 36, .int), (eC E 37, .int), (eC E 38, .int), (eC E 39, .int), (eC E 40, .int), (eC E 41, .int), (eC E 42, .int), (eC E 43, .int), (eC E 44, .int), (eC E 45, .int), (eC E 46, .int), (eC E 47, .int), (eC E 48, .int), (eC E 49, .int), (eC E 50, .int), (eC E 51, .int), (eC E 52, .int), (eC E 53, .int), (eC E 54, .int), (eC E 55, .int), (eC E 56, .int), (eC E 57, .boolean), (eC E 58, .int), (eC E 59, .int), (eC E 60, .int), (eC E 61, .boolean), (eC E 62, .boolean), (eC E 63, .int), (eC E 64, .int), (eC E 65, .int), (eC E 66, .int), (eC E 67, .int), (eC E 68, .int), (eC E 69, .int), (eC E 70, .int), (eC E 71, .int), (eC E 72, .int), (eC E 73, .int), (eC E 74, .int), (eC E 75, .int), (eC E 76, .int), (eC E 77, .int), (eC E 78, .int), (eC E 79, .int), (eC E 80, .int), (eC E 81, .int), (eC E 82, .int), (eC E 83, .int), (eC E 84, .int), (eC E 85, .int), (eC E 86, .int), (eC E 87, .boolean), (eC E 88, .boolean), (eC E 89, .int), (eC E 90, .int), (eC E 91, .int), (eC E 92, .boolean), (eC E 93, .boolean), (eC E 94, .int), (eC E 95, .int), (eC E 96, .int), (eC E 97, .int), (eC E 98, .int), (eC E 99, .int), (eC E 100, .int), (eC E 101, .int), (eC E 102, .int), (eC E 103, .int), (eC E 104, .int), (eC E 105, .int), (eC E 106, .int), (eC E 107, .int)]
theorem wG_adr (E : pEv) (m : pMem) : (wG E m).map Prod.fst = (List.range 108).map (eA E) := rfl
def FA (E : pEv) : Nat → Prop := fun q => ∃ k, k < 108 ∧ q = eA E k
def gDs (E : pEv) : Prop := ∀ i j, i < 108 → j < 108 → eA E i = eA E j → i = j
theorem wG_at {E : pEv} {m : pMem} {k : Nat} {q : Nat × va_E} (h : (wG E m)[k]? = some q) : k < 108 ∧ q.1 = eA E k := by
  have h1 : ((wG E m).map Prod.fst)[k]? = some q.1 := by rw [List.getElem?_map, h]; rfl
  rw [wG_adr, List.getElem?_map] at h1
  by_cases hk : k < 108
  · rw [List.getElem?_range hk] at h1
    exact ⟨hk, (Option.some.inj h1).symm⟩
  · rw [List.getElem?_eq_none (by rw [List.length_range]; omega)] at h1
    cases h1
theorem wG_D {E : pEv} (h : gDs E) {A : Nat → Prop} (hA : ∀ k, k < 108 → A (eA E k)) (m : pMem) : va_D A (wG E m) := by
  refine ⟨fun i j p q hi hj e => ?_, fun k q hk => ?_⟩
  · obtain ⟨a1, a2⟩ := wG_at hi
    obtain ⟨b1, b2⟩ := wG_at hj
    exact h i j a1 b1 (by rw [← a2, ← b2]; exact e)
  · obtain ⟨a1, a2⟩ := wG_at hk
    rw [a2]
    exact hA k a1
abbrev gNs : List (String × Nat × MethodName × String) := [("PartedLand", 18, ⟨"PartedLand$Text", "<init>", "()V"⟩, "PartedLand"), ("PartedLand", 25, ⟨"PartedLand$Words", "<init>", "()V"⟩, "PartedLand"), ("PartedLand", 32, ⟨"PartedLand$Voices", "<init>", "()V"⟩, "PartedLand"), ("PartedLand", 57, ⟨"PartedLand$Pensioners", "<init>", "()V"⟩, "PartedLand"), ("PartedLand", 64, ⟨"PartedLand$Days", "<init>", "()V"⟩, "PartedLand"), ("PartedLand$History", 70, ⟨"PartedLand", "isIn", "(II)Z"⟩, "PartedLand"), ("PartedLand$Pacts", 120, ⟨"PartedLand", "isIn", "(II)Z"⟩, "PartedLand")]
abbrev gSr : List (Nat × String) := [(57, "follow"), (67, "clean"), (69, "silence"), (99, "no"), (101, "yes"), (74, "within"), (79, "share"), (81, "heads"), (83, "worth"), (85, "equal"), (91, "pay"), (93, "served"), (95, "lives"), (97, "born")]
abbrev gSl : List Nat := [6, 5, 7, 2, 3, 6, 5, 5, 5, 5, 3, 6, 5, 4]
abbrev gSb : List (List Int32) := [[102, 111, 108, 108, 111, 119], [99, 108, 101, 97, 110], [115, 105, 108, 101, 110, 99, 101], [110, 111], [121, 101, 115], [119, 105, 116, 104, 105, 110], [115, 104, 97, 114, 101], [104, 101, 97, 100, 115], [119, 111, 114, 116, 104], [101, 113, 117, 97, 108], [112, 97, 121], [115, 101, 114, 118, 101, 100], [108, 105, 118, 101, 115], [98, 111, 114, 110]]
/-- what stays: literals, their bytes, the JDK's statics -/
def gST (E : pEv) (U : State) : Prop := (∀ (i : Nat) (q : Nat × String), gSr[i]? = some q → vk_R "PartedLand$Text" q.1 q.2 (eK E i) U) ∧ vk_S 14 gSl gSb (eK E) (eV E) (FA E) U U.heap ∧ va_Z "java/lang/String" "COMPACT_STRINGS" "Z" (.int 1) (FA E) U U.heap ∧ va_Zq "jdk/internal/util/Preconditions" "SIOOBE_FORMATTER" "Ljava/util/function/BiFunction;" (FA E) U U.heap
def gKK (E : pEv) (U : State) : Prop := va_K (eD E) gcl (tG E) U ∧ (∀ q, q ∈ gNs → va_Nw (.methodLinkNest q.1 q.2.1 q.2.2.1 q.2.2.2) U) ∧ gST E U
theorem gST.moved {E : pEv} {s U : State} {A : Nat → Prop} {H : Heap} {locs : List Loc} (h : gST E s) (hW : s.WarmedH U.vm) (hH : U.heap = H) (hS : va_S A s.heap H locs) (hA : ∀ a, a < s.heap.size → A a → FA E a) : gST E U := by
  have hk : ∀ a : Nat, a < s.heap.size → ¬ FA E a → U.heap[a]? = s.heap[a]? := fun a h1 h2 => by rw [hH]; exact hS.2.1 a h1 (fun z => h2 (hA a h1 z))
  exact ⟨fun i q hq => vk_R.warm hW (h.1 i q hq), vk_S.kept (vk_S.moved hW.alike h.2.1) hk, va_Z.kept (va_Z.moved hW.alike h.2.2.1) hk, va_Zq.kept (va_Zq.moved hW.alike h.2.2.2) hk⟩
theorem gKK.moved {E : pEv} {s U : State} {A : Nat → Prop} {H : Heap} {locs : List Loc} (h : gKK E s) (hW : s.WarmedH U.vm) (hH : U.heap = H) (hS : va_S A s.heap H locs) (hA : ∀ a, a < s.heap.size → A a → FA E a) : gKK E U :=
  ⟨va_K.moved hW.alike h.1, fun q hq => va_Nw.warmM hW (h.2.1 q hq), h.2.2.moved hW hH hS hA⟩
theorem gKK.calling {E : pEv} {U : State} {g : JFrame} {mk : MethodId} {a : Array Value} (h : gKK E U) : gKK E (U.calling g mk a) :=
  ⟨va_K.moved (u := U) (U := U.calling g mk a) (Vm.Alike.refl U.vm) h.1, fun q hq => va_Nw.same rfl (u := U) (U := U.calling g mk a) rfl (h.2.1 q hq), fun i q hq => vk_R.same (u := U) (U := U.calling g mk a) rfl (h.2.2.1 i q hq), vk_S.moved (u := U) (U := U.calling g mk a) (Vm.Alike.refl U.vm) h.2.2.2.1, va_Z.moved (u := U) (U := U.calling g mk a) (Vm.Alike.refl U.vm) h.2.2.2.2.1, va_Zq.moved (u := U) (U := U.calling g mk a) (Vm.Alike.refl U.vm) h.2.2.2.2.2⟩
/-- the world with a memory -/
def gWd (E : pEv) (m : pMem) (U : State) : Prop := va_P (eD E) gcl (wG E m) U.heap ∧ gKK E U ∧ gDs E
/-- a method: bytes, class, locals, type of the answer, room, cells and slots used so far -/
abbrev pKi : Type := ByteArray × String × Nat × Option FieldType × Room × Nat × Nat
/-- what may be written; what else holds; the end -/
abbrev pZt : Type := (State → Nat → Prop) × (State → Array Value → Prop) × (State → Array Value → List Frame → State → Prop)
def gCx (E : pEv) (K : pKi) (Z : pZt) (p : Program) (s : State) (mm : MethodId) (args : Array Value) (meth : Method) (c : Code) : Prop :=
  p.tables.exec = Jvm.exec ∧ c.code = K.1 ∧ c.maxLocals = K.2.2.1 ∧ s.vm.findClass K.2.1 = some mm.cls ∧ (∀ w, w ∈ gAW → w.before args s = true) ∧ meth.sig.returnType = K.2.2.2.1 ∧ meth.locks = false ∧ gKK E s ∧ gDs E ∧ (∀ k, k < 108 → Z.1 s (eA E k)) ∧ (∀ a, a < s.heap.size → Z.1 s a → FA E a) ∧ Z.2.1 s args
def gG (E : pEv) (K : pKi) (Z : pZt) (pc : Nat) (lv : List (Nat × Value)) (st : List Value) (m : pMem) : Prop :=
  ∀ (p : Program) (e : Env) (s : State) (mm : MethodId) (args : Array Value) (below : List Frame) (meth : Method) (c : Code) (H : Heap) (locs : List Loc) (ls : Array Slot),
    gCx E K Z p s mm args meth c → lv_has ls K.2.2.1 lv → va_P (eD E) gcl (wG E m) H → va_S (Z.1 s) s.heap H locs →
    W p (eL E) e K.2.2.2.2.1 s mm args below meth c H locs K.2.2.2.2.2.1 K.2.2.2.2.2.2 (Z.2.2 s args below) (F0 mm pc ls st)
section GG
variable {E : pEv} {K : pKi} {Z : pZt} {pc : Nat} {lv : List (Nat × Value)} {st : List Value} {m : pMem}
theorem g_iconst {n : Int} {v : Int32} (hd : decode K.1 pc = .ok (.iconst n, 1)) (hv : Int32.ofInt n = v) (h : gG E K Z (pc + 1) lv (.int v :: st) m) : gG E K Z pc lv (st) m := by
  intro p e s mm args below meth c H locs ls C hl hP hS
  exact lv_iconst C.1 C.2.1 hd hv (h p e s mm args below meth c H locs ls C hl hP hS)
theorem g_bipush {n : Int} {v : Int32} (hd : decode K.1 pc = .ok (.bipush n, 2)) (hv : (Int8.ofInt n).toInt32 = v) (h : gG E K Z (pc + 2) lv (.int v :: st) m) : gG E K Z pc lv (st) m := by
  intro p e s mm args below meth c H locs ls C hl hP hS
  exact lv_bipush C.1 C.2.1 hd hv (h p e s mm args below meth c H locs ls C hl hP hS)
theorem g_sipush {n : Int} {v : Int32} (hd : decode K.1 pc = .ok (.sipush n, 3)) (hv : (Int16.ofInt n).toInt32 = v) (h : gG E K Z (pc + 3) lv (.int v :: st) m) : gG E K Z pc lv (st) m := by
  intro p e s mm args below meth c H locs ls C hl hP hS
  exact lv_sipush C.1 C.2.1 hd hv (h p e s mm args below meth c H locs ls C hl hP hS)
theorem g_lconst {n : Fin 2} {v : Int64} (hd : decode K.1 pc = .ok (.lconst n, 1)) (hv : Int64.ofNat (n : Nat) = v) (h : gG E K Z (pc + 1) lv (.long v :: st) m) : gG E K Z pc lv (st) m := by
  intro p e s mm args below meth c H locs ls C hl hP hS
  exact lv_lconst C.1 C.2.1 hd hv (h p e s mm args below meth c H locs ls C hl hP hS)
theorem g_iload_n {k : Fin 4} {i q : Nat} {x : Int32} (hd : decode K.1 pc = .ok (.iload_n k, 1)) (hi : (k : Nat) = i) (hq : lv[q]? = some (i, .int x)) (h : gG E K Z (pc + 1) lv (.int x :: st) m) : gG E K Z pc lv (st) m := by
  intro p e s mm args below meth c H locs ls C hl hP hS
  exact lv_iload_n C.1 C.2.1 hd hi (lv_at hl q hq) (h p e s mm args below meth c H locs ls C hl hP hS)
theorem g_iload {i q : Nat} {x : Int32} (hd : decode K.1 pc = .ok (.iload i, 2)) (hq : lv[q]? = some (i, .int x)) (h : gG E K Z (pc + 2) lv (.int x :: st) m) : gG E K Z pc lv (st) m := by
  intro p e s mm args below meth c H locs ls C hl hP hS
  exact lv_iload C.1 C.2.1 hd (lv_at hl q hq) (h p e s mm args below meth c H locs ls C hl hP hS)
theorem g_lload_n {k : Fin 4} {i q : Nat} {x : Int64} (hd : decode K.1 pc = .ok (.lload_n k, 1)) (hi : (k : Nat) = i) (hq : lv[q]? = some (i, .long x)) (h : gG E K Z (pc + 1) lv (.long x :: st) m) : gG E K Z pc lv (st) m := by
  intro p e s mm args below meth c H locs ls C hl hP hS
  exact lv_lload_n C.1 C.2.1 hd hi (lv_at hl q hq) (h p e s mm args below meth c H locs ls C hl hP hS)
theorem g_lload {i q : Nat} {x : Int64} (hd : decode K.1 pc = .ok (.lload i, 2)) (hq : lv[q]? = some (i, .long x)) (h : gG E K Z (pc + 2) lv (.long x :: st) m) : gG E K Z pc lv (st) m := by
  intro p e s mm args below meth c H locs ls C hl hP hS
  exact lv_lload C.1 C.2.1 hd (lv_at hl q hq) (h p e s mm args below meth c H locs ls C hl hP hS)
theorem g_aload_n {k : Fin 4} {i q : Nat} {x : Nat} (hd : decode K.1 pc = .ok (.aload_n k, 1)) (hi : (k : Nat) = i) (hq : lv[q]? = some (i, .ref x)) (h : gG E K Z (pc + 1) lv (.ref x :: st) m) : gG E K Z pc lv (st) m := by
  intro p e s mm args below meth c H locs ls C hl hP hS
  exact lv_aload_n C.1 C.2.1 hd hi (lv_at hl q hq) (h p e s mm args below meth c H locs ls C hl hP hS)
theorem g_aload {i q : Nat} {x : Nat} (hd : decode K.1 pc = .ok (.aload i, 2)) (hq : lv[q]? = some (i, .ref x)) (h : gG E K Z (pc + 2) lv (.ref x :: st) m) : gG E K Z pc lv (st) m := by
  intro p e s mm args below meth c H locs ls C hl hP hS
  exact lv_aload C.1 C.2.1 hd (lv_at hl q hq) (h p e s mm args below meth c H locs ls C hl hP hS)
theorem g_iadd {x y : Int32} (hd : decode K.1 pc = .ok (.iadd, 1)) (h : gG E K Z (pc + 1) lv (.int (x + y) :: st) m) : gG E K Z pc lv (.int y :: .int x :: st) m := by
  intro p e s mm args below meth c H locs ls C hl hP hS
  exact lv_iadd C.1 C.2.1 hd (h p e s mm args below meth c H locs ls C hl hP hS)
theorem g_isub {x y : Int32} (hd : decode K.1 pc = .ok (.isub, 1)) (h : gG E K Z (pc + 1) lv (.int (x - y) :: st) m) : gG E K Z pc lv (.int y :: .int x :: st) m := by
  intro p e s mm args below meth c H locs ls C hl hP hS
  exact lv_isub C.1 C.2.1 hd (h p e s mm args below meth c H locs ls C hl hP hS)
theorem g_imul {x y : Int32} (hd : decode K.1 pc = .ok (.imul, 1)) (h : gG E K Z (pc + 1) lv (.int (x * y) :: st) m) : gG E K Z pc lv (.int y :: .int x :: st) m := by
  intro p e s mm args below meth c H locs ls C hl hP hS
  exact lv_imul C.1 C.2.1 hd (h p e s mm args below meth c H locs ls C hl hP hS)
theorem g_iand {x y : Int32} (hd : decode K.1 pc = .ok (.iand, 1)) (h : gG E K Z (pc + 1) lv (.int (x &&& y) :: st) m) : gG E K Z pc lv (.int y :: .int x :: st) m := by
  intro p e s mm args below meth c H locs ls C hl hP hS
  exact lv_iand C.1 C.2.1 hd (h p e s mm args below meth c H locs ls C hl hP hS)
theorem g_ior {x y : Int32} (hd : decode K.1 pc = .ok (.ior, 1)) (h : gG E K Z (pc + 1) lv (.int (x ||| y) :: st) m) : gG E K Z pc lv (.int y :: .int x :: st) m := by
  intro p e s mm args below meth c H locs ls C hl hP hS
  exact lv_ior C.1 C.2.1 hd (h p e s mm args below meth c H locs ls C hl hP hS)
theorem g_ixor {x y : Int32} (hd : decode K.1 pc = .ok (.ixor, 1)) (h : gG E K Z (pc + 1) lv (.int (x ^^^ y) :: st) m) : gG E K Z pc lv (.int y :: .int x :: st) m := by
  intro p e s mm args below meth c H locs ls C hl hP hS
  exact lv_ixor C.1 C.2.1 hd (h p e s mm args below meth c H locs ls C hl hP hS)
theorem g_ishl {x y : Int32} (hd : decode K.1 pc = .ok (.ishl, 1)) (h : gG E K Z (pc + 1) lv (.int (x <<< (y &&& 31)) :: st) m) : gG E K Z pc lv (.int y :: .int x :: st) m := by
  intro p e s mm args below meth c H locs ls C hl hP hS
  exact lv_ishl C.1 C.2.1 hd (h p e s mm args below meth c H locs ls C hl hP hS)
theorem g_ishr {x y : Int32} (hd : decode K.1 pc = .ok (.ishr, 1)) (h : gG E K Z (pc + 1) lv (.int (x >>> (y &&& 31)) :: st) m) : gG E K Z pc lv (.int y :: .int x :: st) m := by
  intro p e s mm args below meth c H locs ls C hl hP hS
  exact lv_ishr C.1 C.2.1 hd (h p e s mm args below meth c H locs ls C hl hP hS)
theorem g_iushr {x y : Int32} (hd : decode K.1 pc = .ok (.iushr, 1)) (h : gG E K Z (pc + 1) lv (.int ((x.toUInt32 >>> (y.toUInt32 &&& Int32.toUInt32 31)).toInt32) :: st) m) : gG E K Z pc lv (.int y :: .int x :: st) m := by
  intro p e s mm args below meth c H locs ls C hl hP hS
  exact lv_iushr C.1 C.2.1 hd rfl (h p e s mm args below meth c H locs ls C hl hP hS)
theorem g_idiv {x y : Int32} (hd : decode K.1 pc = .ok (.idiv, 1)) (hne : ¬ y = 0) (h : gG E K Z (pc + 1) lv (.int (x / y) :: st) m) : gG E K Z pc lv (.int y :: .int x :: st) m := by
  intro p e s mm args below meth c H locs ls C hl hP hS
  exact lv_idiv C.1 C.2.1 hd hne (h p e s mm args below meth c H locs ls C hl hP hS)
theorem g_ladd {x y : Int64} (hd : decode K.1 pc = .ok (.ladd, 1)) (h : gG E K Z (pc + 1) lv (.long (x + y) :: st) m) : gG E K Z pc lv (.long y :: .long x :: st) m := by
  intro p e s mm args below meth c H locs ls C hl hP hS
  exact lv_ladd C.1 C.2.1 hd (h p e s mm args below meth c H locs ls C hl hP hS)
theorem g_lsub {x y : Int64} (hd : decode K.1 pc = .ok (.lsub, 1)) (h : gG E K Z (pc + 1) lv (.long (x - y) :: st) m) : gG E K Z pc lv (.long y :: .long x :: st) m := by
  intro p e s mm args below meth c H locs ls C hl hP hS
  exact lv_lsub C.1 C.2.1 hd (h p e s mm args below meth c H locs ls C hl hP hS)
theorem g_lmul {x y : Int64} (hd : decode K.1 pc = .ok (.lmul, 1)) (h : gG E K Z (pc + 1) lv (.long (x * y) :: st) m) : gG E K Z pc lv (.long y :: .long x :: st) m := by
  intro p e s mm args below meth c H locs ls C hl hP hS
  exact lv_lmul C.1 C.2.1 hd (h p e s mm args below meth c H locs ls C hl hP hS)
theorem g_land {x y : Int64} (hd : decode K.1 pc = .ok (.land, 1)) (h : gG E K Z (pc + 1) lv (.long (x &&& y) :: st) m) : gG E K Z pc lv (.long y :: .long x :: st) m := by
  intro p e s mm args below meth c H locs ls C hl hP hS
  exact lv_land C.1 C.2.1 hd (h p e s mm args below meth c H locs ls C hl hP hS)
theorem g_lor {x y : Int64} (hd : decode K.1 pc = .ok (.lor, 1)) (h : gG E K Z (pc + 1) lv (.long (x ||| y) :: st) m) : gG E K Z pc lv (.long y :: .long x :: st) m := by
  intro p e s mm args below meth c H locs ls C hl hP hS
  exact lv_lor C.1 C.2.1 hd (h p e s mm args below meth c H locs ls C hl hP hS)
theorem g_lshl {x : Int64} {y : Int32} (hd : decode K.1 pc = .ok (.lshl, 1)) (h : gG E K Z (pc + 1) lv (.long (x <<< (y.toInt64 &&& 63)) :: st) m) : gG E K Z pc lv (.int y :: .long x :: st) m := by
  intro p e s mm args below meth c H locs ls C hl hP hS
  exact lv_lshl C.1 C.2.1 hd rfl (h p e s mm args below meth c H locs ls C hl hP hS)
theorem g_lshr {x : Int64} {y : Int32} (hd : decode K.1 pc = .ok (.lshr, 1)) (h : gG E K Z (pc + 1) lv (.long (x >>> (y.toInt64 &&& 63)) :: st) m) : gG E K Z pc lv (.int y :: .long x :: st) m := by
  intro p e s mm args below meth c H locs ls C hl hP hS
  exact lv_lshr C.1 C.2.1 hd rfl (h p e s mm args below meth c H locs ls C hl hP hS)
theorem g_i2l {x : Int32} (hd : decode K.1 pc = .ok (.i2l, 1)) (h : gG E K Z (pc + 1) lv (.long x.toInt64 :: st) m) : gG E K Z pc lv (.int x :: st) m := by
  intro p e s mm args below meth c H locs ls C hl hP hS
  exact lv_i2l C.1 C.2.1 hd rfl (h p e s mm args below meth c H locs ls C hl hP hS)
theorem g_l2i {x : Int64} (hd : decode K.1 pc = .ok (.l2i, 1)) (h : gG E K Z (pc + 1) lv (.int x.toInt32 :: st) m) : gG E K Z pc lv (.long x :: st) m := by
  intro p e s mm args below meth c H locs ls C hl hP hS
  exact lv_l2i C.1 C.2.1 hd rfl (h p e s mm args below meth c H locs ls C hl hP hS)
theorem g_lcmp {x y : Int64} (hd : decode K.1 pc = .ok (.lcmp, 1)) (h : gG E K Z (pc + 1) lv (.int (lg_cmp x y) :: st) m) : gG E K Z pc lv (.long y :: .long x :: st) m := by
  intro p e s mm args below meth c H locs ls C hl hP hS
  exact W.lcmp C.1 C.2.1 hd (h p e s mm args below meth c H locs ls C hl hP hS)
theorem g_dup {v : Value} (hd : decode K.1 pc = .ok (.dup, 1)) (hv : v.category = 1) (h : gG E K Z (pc + 1) lv (v :: v :: st) m) : gG E K Z pc lv (v :: st) m := by
  intro p e s mm args below meth c H locs ls C hl hP hS
  exact lv_dup C.1 C.2.1 hd hv (h p e s mm args below meth c H locs ls C hl hP hS)
theorem g_pop {v : Value} (hd : decode K.1 pc = .ok (.pop, 1)) (hv : v.category = 1) (h : gG E K Z (pc + 1) lv (st) m) : gG E K Z pc lv (v :: st) m := by
  intro p e s mm args below meth c H locs ls C hl hP hS
  exact lv_pop C.1 C.2.1 hd hv (h p e s mm args below meth c H locs ls C hl hP hS)
theorem g_dup2 {v u : Value} (hd : decode K.1 pc = .ok (.dup2, 1)) (hv : v.category = 1) (hu : u.category = 1) (h : gG E K Z (pc + 1) lv (v :: u :: v :: u :: st) m) : gG E K Z pc lv (v :: u :: st) m := by
  intro p e s mm args below meth c H locs ls C hl hP hS
  exact lv_dup2_11 C.1 C.2.1 hd hv hu (h p e s mm args below meth c H locs ls C hl hP hS)
theorem g_ldc {i : Nat} {v : Int32} (hd : decode K.1 pc = .ok (.ldc i, 2)) (hw : Cond.constant K.2.1 i v ∈ gAW) (h : gG E K Z (pc + 2) lv (.int v :: st) m) : gG E K Z pc lv (st) m := by
  intro p e s mm args below meth c H locs ls C hl hP hS
  exact lv_ldc C.1 C.2.1 C.2.2.2.1 (C.2.2.2.2.1 _ hw) hd (h p e s mm args below meth c H locs ls C hl hP hS)
theorem g_ldc_w {i : Nat} {v : Int32} (hd : decode K.1 pc = .ok (.ldc_w i, 3)) (hw : Cond.constant K.2.1 i v ∈ gAW) (h : gG E K Z (pc + 3) lv (.int v :: st) m) : gG E K Z pc lv (st) m := by
  intro p e s mm args below meth c H locs ls C hl hP hS
  exact lv_ldcw C.1 C.2.1 C.2.2.2.1 (C.2.2.2.2.1 _ hw) hd (h p e s mm args below meth c H locs ls C hl hP hS)
theorem g_ldc2 {i : Nat} {v : Int64} (hd : decode K.1 pc = .ok (.ldc2_w i, 3)) (hw : Cond.constantLong K.2.1 i v ∈ gAW) (h : gG E K Z (pc + 3) lv (.long v :: st) m) : gG E K Z pc lv (st) m := by
  intro p e s mm args below meth c H locs ls C hl hP hS
  exact lv_ldc2 C.1 C.2.1 C.2.2.2.1 (C.2.2.2.2.1 _ hw) hd (h p e s mm args below meth c H locs ls C hl hP hS)
theorem g_ldcS {i k : Nat} {tx : String} (hd : decode K.1 pc = .ok (.ldc i, 2)) (ho : K.2.1 = "PartedLand$Text") (hk : gSr[k]? = some (i, tx)) (h : gG E K Z (pc + 2) lv (.ref (eK E k) :: st) m) : gG E K Z pc lv (st) m := by
  intro p e s mm args below meth c H locs ls C hl hP hS
  exact va_ldcS C.1 C.2.1 C.2.2.2.1 (by rw [ho]; exact C.2.2.2.2.2.2.2.1.2.2.1 k (i, tx) hk) hd (h p e s mm args below meth c H locs ls C hl hP hS)
theorem g_istore_n {lv' : List (Nat × Value)} {k : Fin 4} {i : Nat} {x : Int32} (hd : decode K.1 pc = .ok (.istore_n k, 1)) (hi : (k : Nat) = i) (hn : i < K.2.2.1) (hv : (i, Value.int x) :: lv.filter (fun q => !(q.1 == i) && !(q.1 + 1 == i && q.2.category == 2)) = lv') (h : gG E K Z (pc + 1) lv' st m) : gG E K Z pc lv (.int x :: st) m := by
  intro p e s mm args below meth c H locs ls C hl hP hS
  exact lv_istore_n C.1 C.2.1 hd hi hl hn hv (fun ls hl => h p e s mm args below meth c H locs ls C hl hP hS)
theorem g_istore {lv' : List (Nat × Value)} {i : Nat} {x : Int32} (hd : decode K.1 pc = .ok (.istore i, 2)) (hn : i < K.2.2.1) (hv : (i, Value.int x) :: lv.filter (fun q => !(q.1 == i) && !(q.1 + 1 == i && q.2.category == 2)) = lv') (h : gG E K Z (pc + 2) lv' st m) : gG E K Z pc lv (.int x :: st) m := by
  intro p e s mm args below meth c H locs ls C hl hP hS
  exact lv_istore C.1 C.2.1 hd hl hn hv (fun ls hl => h p e s mm args below meth c H locs ls C hl hP hS)
theorem g_lstore_n {lv' : List (Nat × Value)} {k : Fin 4} {i : Nat} {x : Int64} (hd : decode K.1 pc = .ok (.lstore_n k, 1)) (hi : (k : Nat) = i) (hn : i + 1 < K.2.2.1) (hv : (i, Value.long x) :: lv.filter (fun q => !(q.1 == i) && (!(q.1 == i + 1) && !(q.1 + 1 == i && q.2.category == 2))) = lv') (h : gG E K Z (pc + 1) lv' st m) : gG E K Z pc lv (.long x :: st) m := by
  intro p e s mm args below meth c H locs ls C hl hP hS
  exact lv_lstore_n C.1 C.2.1 hd hi hl hn hv (fun ls hl => h p e s mm args below meth c H locs ls C hl hP hS)
theorem g_lstore {lv' : List (Nat × Value)} {i : Nat} {x : Int64} (hd : decode K.1 pc = .ok (.lstore i, 2)) (hn : i + 1 < K.2.2.1) (hv : (i, Value.long x) :: lv.filter (fun q => !(q.1 == i) && (!(q.1 == i + 1) && !(q.1 + 1 == i && q.2.category == 2))) = lv') (h : gG E K Z (pc + 2) lv' st m) : gG E K Z pc lv (.long x :: st) m := by
  intro p e s mm args below meth c H locs ls C hl hP hS
  exact lv_lstore C.1 C.2.1 hd hl hn hv (fun ls hl => h p e s mm args below meth c H locs ls C hl hP hS)
theorem g_astore_n {lv' : List (Nat × Value)} {k : Fin 4} {i : Nat} {x : Nat} (hd : decode K.1 pc = .ok (.astore_n k, 1)) (hi : (k : Nat) = i) (hn : i < K.2.2.1) (hv : (i, Value.ref x) :: lv.filter (fun q => !(q.1 == i) && !(q.1 + 1 == i && q.2.category == 2)) = lv') (h : gG E K Z (pc + 1) lv' st m) : gG E K Z pc lv (.ref x :: st) m := by
  intro p e s mm args below meth c H locs ls C hl hP hS
  exact lv_astore_n C.1 C.2.1 hd hi hl hn hv (fun ls hl => h p e s mm args below meth c H locs ls C hl hP hS)
theorem g_astore {lv' : List (Nat × Value)} {i : Nat} {x : Nat} (hd : decode K.1 pc = .ok (.astore i, 2)) (hn : i < K.2.2.1) (hv : (i, Value.ref x) :: lv.filter (fun q => !(q.1 == i) && !(q.1 + 1 == i && q.2.category == 2)) = lv') (h : gG E K Z (pc + 2) lv' st m) : gG E K Z pc lv (.ref x :: st) m := by
  intro p e s mm args below meth c H locs ls C hl hP hS
  exact lv_astore C.1 C.2.1 hd hl hn hv (fun ls hl => h p e s mm args below meth c H locs ls C hl hP hS)
theorem g_iinc {lv' : List (Nat × Value)} {i q : Nat} {n : Int} {x v : Int32} (hd : decode K.1 pc = .ok (.iinc i n, 3)) (hq : lv[q]? = some (i, .int x)) (hx : x + Int32.ofInt n = v) (hn : i < K.2.2.1) (hv : (i, Value.int v) :: lv.filter (fun q => !(q.1 == i) && !(q.1 + 1 == i && q.2.category == 2)) = lv') (h : gG E K Z (pc + 3) lv' st m) : gG E K Z pc lv (st) m := by
  intro p e s mm args below meth c H locs ls C hl hP hS
  exact lv_iinc C.1 C.2.1 hd hl hq hx hn hv (fun ls hl => h p e s mm args below meth c H locs ls C hl hP hS)
theorem g_if_eq {x : Int32} {off : Int} {tgt : Nat} (hd : decode K.1 pc = .ok (.ifCond .eq off, 3)) (ht : (pc : Int) + off = (tgt : Int)) (kt : x = 0 → gG E K Z tgt lv st m) (kf : ¬ x = 0 → gG E K Z (pc + 3) lv st m) : gG E K Z pc lv (.int x :: st) m := by
  intro p e s mm args below meth c H locs ls C hl hP hS
  exact lv_if_eq C.1 C.2.1 hd ht (fun z => kt z p e s mm args below meth c H locs ls C hl hP hS) (fun z => kf z p e s mm args below meth c H locs ls C hl hP hS)
theorem g_icmp_eq {x y : Int32} {off : Int} {tgt : Nat} (hd : decode K.1 pc = .ok (.if_icmp .eq off, 3)) (ht : (pc : Int) + off = (tgt : Int)) (kt : x = y → gG E K Z tgt lv st m) (kf : ¬ x = y → gG E K Z (pc + 3) lv st m) : gG E K Z pc lv (.int y :: .int x :: st) m := by
  intro p e s mm args below meth c H locs ls C hl hP hS
  exact lv_icmp_eq C.1 C.2.1 hd ht (fun z => kt z p e s mm args below meth c H locs ls C hl hP hS) (fun z => kf z p e s mm args below meth c H locs ls C hl hP hS)
theorem g_if_ne {x : Int32} {off : Int} {tgt : Nat} (hd : decode K.1 pc = .ok (.ifCond .ne off, 3)) (ht : (pc : Int) + off = (tgt : Int)) (kt : ¬ x = 0 → gG E K Z tgt lv st m) (kf : x = 0 → gG E K Z (pc + 3) lv st m) : gG E K Z pc lv (.int x :: st) m := by
  intro p e s mm args below meth c H locs ls C hl hP hS
  exact lv_if_ne C.1 C.2.1 hd ht (fun z => kt z p e s mm args below meth c H locs ls C hl hP hS) (fun z => kf z p e s mm args below meth c H locs ls C hl hP hS)
theorem g_icmp_ne {x y : Int32} {off : Int} {tgt : Nat} (hd : decode K.1 pc = .ok (.if_icmp .ne off, 3)) (ht : (pc : Int) + off = (tgt : Int)) (kt : ¬ x = y → gG E K Z tgt lv st m) (kf : x = y → gG E K Z (pc + 3) lv st m) : gG E K Z pc lv (.int y :: .int x :: st) m := by
  intro p e s mm args below meth c H locs ls C hl hP hS
  exact lv_icmp_ne C.1 C.2.1 hd ht (fun z => kt z p e s mm args below meth c H locs ls C hl hP hS) (fun z => kf z p e s mm args below meth c H locs ls C hl hP hS)
theorem g_if_lt {x : Int32} {off : Int} {tgt : Nat} (hd : decode K.1 pc = .ok (.ifCond .lt off, 3)) (ht : (pc : Int) + off = (tgt : Int)) (kt : x < 0 → gG E K Z tgt lv st m) (kf : ¬ x < 0 → gG E K Z (pc + 3) lv st m) : gG E K Z pc lv (.int x :: st) m := by
  intro p e s mm args below meth c H locs ls C hl hP hS
  exact lv_if_lt C.1 C.2.1 hd ht (fun z => kt z p e s mm args below meth c H locs ls C hl hP hS) (fun z => kf z p e s mm args below meth c H locs ls C hl hP hS)
theorem g_icmp_lt {x y : Int32} {off : Int} {tgt : Nat} (hd : decode K.1 pc = .ok (.if_icmp .lt off, 3)) (ht : (pc : Int) + off = (tgt : Int)) (kt : x < y → gG E K Z tgt lv st m) (kf : ¬ x < y → gG E K Z (pc + 3) lv st m) : gG E K Z pc lv (.int y :: .int x :: st) m := by
  intro p e s mm args below meth c H locs ls C hl hP hS
  exact lv_icmp_lt C.1 C.2.1 hd ht (fun z => kt z p e s mm args below meth c H locs ls C hl hP hS) (fun z => kf z p e s mm args below meth c H locs ls C hl hP hS)
theorem g_if_ge {x : Int32} {off : Int} {tgt : Nat} (hd : decode K.1 pc = .ok (.ifCond .ge off, 3)) (ht : (pc : Int) + off = (tgt : Int)) (kt : 0 ≤ x → gG E K Z tgt lv st m) (kf : ¬ 0 ≤ x → gG E K Z (pc + 3) lv st m) : gG E K Z pc lv (.int x :: st) m := by
  intro p e s mm args below meth c H locs ls C hl hP hS
  exact lv_if_ge C.1 C.2.1 hd ht (fun z => kt z p e s mm args below meth c H locs ls C hl hP hS) (fun z => kf z p e s mm args below meth c H locs ls C hl hP hS)
theorem g_icmp_ge {x y : Int32} {off : Int} {tgt : Nat} (hd : decode K.1 pc = .ok (.if_icmp .ge off, 3)) (ht : (pc : Int) + off = (tgt : Int)) (kt : y ≤ x → gG E K Z tgt lv st m) (kf : ¬ y ≤ x → gG E K Z (pc + 3) lv st m) : gG E K Z pc lv (.int y :: .int x :: st) m := by
  intro p e s mm args below meth c H locs ls C hl hP hS
  exact lv_icmp_ge C.1 C.2.1 hd ht (fun z => kt z p e s mm args below meth c H locs ls C hl hP hS) (fun z => kf z p e s mm args below meth c H locs ls C hl hP hS)
theorem g_if_gt {x : Int32} {off : Int} {tgt : Nat} (hd : decode K.1 pc = .ok (.ifCond .gt off, 3)) (ht : (pc : Int) + off = (tgt : Int)) (kt : 0 < x → gG E K Z tgt lv st m) (kf : ¬ 0 < x → gG E K Z (pc + 3) lv st m) : gG E K Z pc lv (.int x :: st) m := by
  intro p e s mm args below meth c H locs ls C hl hP hS
  exact lv_if_gt C.1 C.2.1 hd ht (fun z => kt z p e s mm args below meth c H locs ls C hl hP hS) (fun z => kf z p e s mm args below meth c H locs ls C hl hP hS)
theorem g_icmp_gt {x y : Int32} {off : Int} {tgt : Nat} (hd : decode K.1 pc = .ok (.if_icmp .gt off, 3)) (ht : (pc : Int) + off = (tgt : Int)) (kt : y < x → gG E K Z tgt lv st m) (kf : ¬ y < x → gG E K Z (pc + 3) lv st m) : gG E K Z pc lv (.int y :: .int x :: st) m := by
  intro p e s mm args below meth c H locs ls C hl hP hS
  exact lv_icmp_gt C.1 C.2.1 hd ht (fun z => kt z p e s mm args below meth c H locs ls C hl hP hS) (fun z => kf z p e s mm args below meth c H locs ls C hl hP hS)
theorem g_if_le {x : Int32} {off : Int} {tgt : Nat} (hd : decode K.1 pc = .ok (.ifCond .le off, 3)) (ht : (pc : Int) + off = (tgt : Int)) (kt : x ≤ 0 → gG E K Z tgt lv st m) (kf : ¬ x ≤ 0 → gG E K Z (pc + 3) lv st m) : gG E K Z pc lv (.int x :: st) m := by
  intro p e s mm args below meth c H locs ls C hl hP hS
  exact lv_if_le C.1 C.2.1 hd ht (fun z => kt z p e s mm args below meth c H locs ls C hl hP hS) (fun z => kf z p e s mm args below meth c H locs ls C hl hP hS)
theorem g_icmp_le {x y : Int32} {off : Int} {tgt : Nat} (hd : decode K.1 pc = .ok (.if_icmp .le off, 3)) (ht : (pc : Int) + off = (tgt : Int)) (kt : x ≤ y → gG E K Z tgt lv st m) (kf : ¬ x ≤ y → gG E K Z (pc + 3) lv st m) : gG E K Z pc lv (.int y :: .int x :: st) m := by
  intro p e s mm args below meth c H locs ls C hl hP hS
  exact lv_icmp_le C.1 C.2.1 hd ht (fun z => kt z p e s mm args below meth c H locs ls C hl hP hS) (fun z => kf z p e s mm args below meth c H locs ls C hl hP hS)
theorem g_goto {off : Int} {tgt : Nat} (hd : decode K.1 pc = .ok (.goto off, 3)) (ht : (pc : Int) + off = (tgt : Int)) (h : gG E K Z tgt lv st m) : gG E K Z pc lv st m := by
  intro p e s mm args below meth c H locs ls C hl hP hS
  exact lv_goto C.1 C.2.1 hd ht (h p e s mm args below meth c H locs ls C hl hP hS)
theorem g_tableOut {dflt lo hi : Int} {offs : Array Int} {len : Nat} {x : Int32} {tgt : Nat} (hd : decode K.1 pc = .ok (.tableswitch dflt lo hi offs, len)) (hx : x.toInt < lo ∨ hi < x.toInt) (ht : (pc : Int) + dflt = (tgt : Int)) (h : gG E K Z tgt lv st m) : gG E K Z pc lv (.int x :: st) m := by
  intro p e s mm args below meth c H locs ls C hl hP hS
  exact lv_tableOut C.1 C.2.1 hd hx ht (h p e s mm args below meth c H locs ls C hl hP hS)
theorem g_tableIn {dflt lo hi : Int} {offs : Array Int} {len : Nat} {x : Int32} {off : Int} {tgt : Nat} (hd : decode K.1 pc = .ok (.tableswitch dflt lo hi offs, len)) (h1 : ¬ x.toInt < lo) (h2 : ¬ hi < x.toInt) (ho : offs[(x.toInt - lo).toNat]? = some off) (ht : (pc : Int) + off = (tgt : Int)) (h : gG E K Z tgt lv st m) : gG E K Z pc lv (.int x :: st) m := by
  intro p e s mm args below meth c H locs ls C hl hP hS
  exact lv_tableIn C.1 C.2.1 hd h1 h2 ho ht (h p e s mm args below meth c H locs ls C hl hP hS)
/-- a field: the link, the class, the place -/
def gF (own : String) (idx ci : Nat) (C : String) (T : u_T) (N j : Nat) : Prop := gcl[ci]? = some (C, T, N) ∧ j < N ∧ (Cond.fieldLink own idx (T j).1 (T j).2.1 (T j).2.2.1) ∈ gAW ∧ (∀ w, w ∈ u_ws C T N → w ∈ gAW)
theorem g_get {idx ci : Nat} {C : String} {T : u_T} {N j k : Nat} {fs : List Value} {v : Value} (hd : decode K.1 pc = .ok (.getfield idx, 3)) (hF : gF K.2.1 idx ci C T N j) (ho : (wG E m)[k]? = some (eA E k, .inr (ci, fs))) (hv : fs[j]? = some v) (h : gG E K Z (pc + 3) lv (v :: st) m) : gG E K Z pc lv (.ref (eA E k) :: st) m := by
  intro p e s mm args below meth c H locs ls C hl hP hS
  exact va_get C.1 C.2.1 C.2.2.2.2.1 hF.2.2.2 C.2.2.2.1 C.2.2.2.2.2.2.2.1.1 hP k ho hF.1 j hF.2.1 (C.2.2.2.2.1 _ hF.2.2.1) (fun _ z => z) hv hd (h p e s mm args below meth c H locs ls C hl hP hS)
/-- a class that may be written -/
def gFw (T : u_T) (N j : Nat) (ty : FieldType) : Prop := (∀ a, a < N → ∀ b, b < N → a ≠ b → (T a).2.1 ≠ (T b).2.1) ∧ (∃ ty0 : Nat → FieldType, ∀ k, k < N → parseFieldDescriptor (T k).2.2.1 = some (ty0 k)) ∧ (T j).2.2.2 = false ∧ parseFieldDescriptor (T j).2.2.1 = some ty
theorem g_put {idx ci : Nat} {C : String} {T : u_T} {N j k : Nat} {fs : List Value} {v : Value} {ty : FieldType} {m' : pMem} (hd : decode K.1 pc = .ok (.putfield idx, 3)) (hF : gF K.2.1 idx ci C T N j) (hw : gFw T N j ty) (hn : narrow ty v = v) (hf : fits ty v = true) (ho : (wG E m)[k]? = some (eA E k, .inr (ci, fs))) (hj : j < fs.length) (hs : (wG E m).set k (eA E k, .inr (ci, fs.set j v)) = wG E m') (h : gG E K Z (pc + 3) lv st m') : gG E K Z pc lv (v :: .ref (eA E k) :: st) m := by
  intro p e s mm args below meth c H locs ls C hl hP hS
  obtain ⟨w1, ⟨ty0, w2⟩, w3, w4⟩ := hw
  refine va_put C.1 C.2.1 C.2.2.2.2.1 hF.2.2.2 ty0 w2 w1 C.2.2.2.1 C.2.2.2.2.2.2.2.1.1 hP (wG_D C.2.2.2.2.2.2.2.2.1 C.2.2.2.2.2.2.2.2.2.1 m) hS k ho hF.1 j hF.2.1 (C.2.2.2.2.1 _ hF.2.2.1) (fun _ z => z) w3 w4 hn hf hj hd (fun H1 locs1 hP1 hD1 hS1 => ?_)
  rw [hs] at hP1
  exact h p e s mm args below meth c H1 locs1 ls C hl hP1 hS1
/-- an array of whole numbers -/
def gAr (k n : Nat) (ty : FieldType) : Prop := ∀ (E : pEv) (m : pMem), (wG E m)[k]? = some (eA E k, .inl (eC E k, n, .inl (m.1 k))) ∧ (∃ t : Nat, (tG E)[t]? = some (eC E k, ty)) ∧ ∀ f, (wG E m).set k (eA E k, .inl (eC E k, n, .inl f)) = wG E (up1 m k f)
def gAl (k n : Nat) : Prop := ∀ (E : pEv) (m : pMem), (wG E m)[k]? = some (eA E k, .inl (eC E k, n, .inr (.inl (m.2 k)))) ∧ (∃ t : Nat, (tG E)[t]? = some (eC E k, FieldType.long)) ∧ ∀ f, (wG E m).set k (eA E k, .inl (eC E k, n, .inr (.inl f))) = wG E (up2 m k f)
/-- an index is out -/
abbrev oob (i : Int32) (n : Nat) : Prop := i < 0 ∨ n ≤ i.toNatClampNeg
theorem g_iald {k n : Nat} {i : Int32} (hd : decode K.1 pc = .ok (.iaload, 1)) (hA : gAr k n .int) (hi : ¬ oob i n) (h : gG E K Z (pc + 1) lv (.int (m.1 k i.toNatClampNeg) :: st) m) : gG E K Z pc lv (.int i :: .ref (eA E k) :: st) m := by
  intro p e s mm args below meth c H locs ls C hl hP hS
  obtain ⟨a1, ⟨t, a2⟩, -⟩ := hA E m
  exact va_iald C.1 C.2.1 C.2.2.2.2.2.2.2.1.1 hP k t a1 a2 hi hd (h p e s mm args below meth c H locs ls C hl hP hS)
theorem g_zald {k n : Nat} {i : Int32} (hd : decode K.1 pc = .ok (.baload, 1)) (hA : gAr k n .boolean) (hi : ¬ oob i n) (h : gG E K Z (pc + 1) lv (.int (m.1 k i.toNatClampNeg) :: st) m) : gG E K Z pc lv (.int i :: .ref (eA E k) :: st) m := by
  intro p e s mm args below meth c H locs ls C hl hP hS
  obtain ⟨a1, ⟨t, a2⟩, -⟩ := hA E m
  exact va_zald C.1 C.2.1 C.2.2.2.2.2.2.2.1.1 hP k t a1 a2 hi hd (h p e s mm args below meth c H locs ls C hl hP hS)
theorem g_lald {k n : Nat} {i : Int32} (hd : decode K.1 pc = .ok (.laload, 1)) (hA : gAl k n) (hi : ¬ oob i n) (h : gG E K Z (pc + 1) lv (.long (m.2 k i.toNatClampNeg) :: st) m) : gG E K Z pc lv (.int i :: .ref (eA E k) :: st) m := by
  intro p e s mm args below meth c H locs ls C hl hP hS
  obtain ⟨a1, ⟨t, a2⟩, -⟩ := hA E m
  exact va_lald C.1 C.2.1 C.2.2.2.2.2.2.2.1.1 hP k t a1 a2 hi hd (h p e s mm args below meth c H locs ls C hl hP hS)
theorem g_iast {k n : Nat} {i x : Int32} (hd : decode K.1 pc = .ok (.iastore, 1)) (hA : gAr k n .int) (hi : ¬ oob i n) (h : gG E K Z (pc + 1) lv st (st1 m k i.toNatClampNeg x)) : gG E K Z pc lv (.int x :: .int i :: .ref (eA E k) :: st) m := by
  intro p e s mm args below meth c H locs ls C hl hP hS
  obtain ⟨a1, ⟨t, a2⟩, a3⟩ := hA E m
  refine va_iast C.1 C.2.1 C.2.2.2.2.2.2.2.1.1 hP (wG_D C.2.2.2.2.2.2.2.2.1 C.2.2.2.2.2.2.2.2.2.1 m) hS k t a1 a2 hi hd (fun H1 locs1 hP1 hD1 hS1 => ?_)
  rw [a3] at hP1
  exact h p e s mm args below meth c H1 locs1 ls C hl hP1 hS1
theorem g_zast {k n : Nat} {i x : Int32} (hd : decode K.1 pc = .ok (.bastore, 1)) (hA : gAr k n .boolean) (hi : ¬ oob i n) (h : gG E K Z (pc + 1) lv st (st1 m k i.toNatClampNeg (vp_nar .boolean x))) : gG E K Z pc lv (.int x :: .int i :: .ref (eA E k) :: st) m := by
  intro p e s mm args below meth c H locs ls C hl hP hS
  obtain ⟨a1, ⟨t, a2⟩, a3⟩ := hA E m
  refine va_zast C.1 C.2.1 C.2.2.2.2.2.2.2.1.1 hP (wG_D C.2.2.2.2.2.2.2.2.1 C.2.2.2.2.2.2.2.2.2.1 m) hS k t a1 a2 hi hd (fun H1 locs1 hP1 hD1 hS1 => ?_)
  rw [a3] at hP1
  exact h p e s mm args below meth c H1 locs1 ls C hl hP1 hS1
theorem g_last {k n : Nat} {i : Int32} {x : Int64} (hd : decode K.1 pc = .ok (.lastore, 1)) (hA : gAl k n) (hi : ¬ oob i n) (h : gG E K Z (pc + 1) lv st (st2 m k i.toNatClampNeg x)) : gG E K Z pc lv (.long x :: .int i :: .ref (eA E k) :: st) m := by
  intro p e s mm args below meth c H locs ls C hl hP hS
  obtain ⟨a1, ⟨t, a2⟩, a3⟩ := hA E m
  refine va_last C.1 C.2.1 C.2.2.2.2.2.2.2.1.1 hP (wG_D C.2.2.2.2.2.2.2.2.1 C.2.2.2.2.2.2.2.2.2.1 m) hS k t a1 a2 hi hd (fun H1 locs1 hP1 hD1 hS1 => ?_)
  rw [a3] at hP1
  exact h p e s mm args below meth c H1 locs1 ls C hl hP1 hS1
theorem g_alen {k n : Nat} {v : Int32} {ty : FieldType} (hd : decode K.1 pc = .ok (.arraylength, 1)) (hA : gAr k n ty) (hv : Int32.ofNat n = v) (h : gG E K Z (pc + 1) lv (.int v :: st) m) : gG E K Z pc lv (.ref (eA E k) :: st) m := by
  intro p e s mm args below meth c H locs ls C hl hP hS
  obtain ⟨a1, ⟨t, a2⟩, -⟩ := hA E m
  exact va_alen C.1 C.2.1 C.2.2.2.2.2.2.2.1.1 hP k t a1 a2 hv hd (h p e s mm args below meth c H locs ls C hl hP hS)
/-- a row of the two-dimensional one -/
theorem g_aald {i : Int32} (hd : decode K.1 pc = .ok (.aaload, 1)) (hi : ¬ oob i 13) (h : gG E K Z (pc + 1) lv (.ref (eA E (30 + i.toNatClampNeg)) :: st) m) : gG E K Z pc lv (.int i :: .ref (eA E 29) :: st) m := by
  intro p e s mm args below meth c H locs ls C hl hP hS
  have hlt : i.toNatClampNeg < 13 := Nat.not_le.mp fun q => hi (Or.inr q)
  have ha : (wG E m)[29]? = some (eA E 29, .inl (eC E 29, 13, .inr (.inr (.inr (.inr (fun i => if i < 13 then some (eA E (30 + i)) else none)))))) := rfl
  have ht : (tG E)[29 - 10]? = some (eC E 29, .array .int) := rfl
  have hK := C.2.2.2.2.2.2.2.1.1
  refine W.aald (v := .ref (eA E (30 + i.toNatClampNeg))) (ty := .array .int) C.1 C.2.1 (hP 29 _ ha) ((hK.2 (29 - 10) _ ht).1 13 (fun j => va_rf (if j < 13 then some (eA E (30 + j)) else none))) rfl (fun q => by cases q) (by show ¬ (i < 0 ∨ (arrV _ _ _).slots.size ≤ _); rw [arrV_size]; exact hi) (by show (arrV _ _ _).slots[_]? = _; rw [arrV_read _ _ hlt]; show some (va_rf (if i.toNatClampNeg < 13 then some (eA E (30 + i.toNatClampNeg)) else none)) = _; rw [if_pos hlt]; rfl) rfl rfl hd (h p e s mm args below meth c H locs ls C hl hP hS)
theorem g_iret {v : Int32} {Qc : Array Value → State → Outcome → State → Prop} {fr : Nat → Prop} (hd : decode K.1 pc = .ok (.ireturn, 1)) {ty : FieldType} (hr : K.2.2.2.1 = some ty) (hn : narrow ty (.int v) = .int v)
    (hQ : ∀ s args below, Z.2.2 s args below = MQ below Qc args s K.2.2.2.2.2.1 K.2.2.2.2.2.2 fr) (hA : ∀ s q, Z.1 s q → fr q)
    (hq : ∀ s args t H locs, t.heap = H → s.WarmedH t.vm → va_P (eD E) gcl (wG E m) H → va_S (Z.1 s) s.heap H locs → gKK E s → gDs E → (∀ a, a < s.heap.size → Z.1 s a → FA E a) → Qc args s (.returned (some (.int v))) t) : gG E K Z pc lv [.int v] m := by
  intro p e s mm args below meth c H locs ls C hl hP hS
  rw [hQ]
  exact W.zret C.1 C.2.1 (C.2.2.2.2.2.1.trans hr) hn (fun t ht hW => hq s args t H locs ht hW hP hS C.2.2.2.2.2.2.2.1 C.2.2.2.2.2.2.2.2.1 C.2.2.2.2.2.2.2.2.2.2.1) (fun q hq => hA s _ (hS.2.2 q hq)) hd C.2.2.2.2.2.2.1
theorem g_vret {Qc : Array Value → State → Outcome → State → Prop} {fr : Nat → Prop} (hd : decode K.1 pc = .ok (.return_, 1)) (hr : K.2.2.2.1 = none)
    (hQ : ∀ s args below, Z.2.2 s args below = MQ below Qc args s K.2.2.2.2.2.1 K.2.2.2.2.2.2 fr) (hA : ∀ s q, Z.1 s q → fr q)
    (hq : ∀ s args t H locs, t.heap = H → s.WarmedH t.vm → va_P (eD E) gcl (wG E m) H → va_S (Z.1 s) s.heap H locs → gKK E s → gDs E → (∀ a, a < s.heap.size → Z.1 s a → FA E a) → Qc args s (.returned none) t) : gG E K Z pc lv [] m := by
  intro p e s mm args below meth c H locs ls C hl hP hS
  rw [hQ]
  exact W.vret C.1 C.2.1 (C.2.2.2.2.2.1.trans hr) (fun t ht hW => hq s args t H locs ht hW hP hS C.2.2.2.2.2.2.2.1 C.2.2.2.2.2.2.2.2.1 C.2.2.2.2.2.2.2.2.2.2.1) (fun q hq => hA s _ (hS.2.2 q hq)) hd C.2.2.2.2.2.2.1
end GG
/-- a method's end: the answer and the memory -/
def gQ (E : pEv) (ret : Option FieldType) (z : Int32 × pMem) : Array Value → State → Outcome → State → Prop :=
  if ret = none then va_Qv (fun u : pMem => u = z.2) (fun u t => gWd E u t) (FA E) else va_Qi (fun (r : Int32) (u : pMem) => r = z.1 ∧ u = z.2) (fun u t => gWd E u t) (FA E)
def gZ (E : pEv) (K : pKi) (z : Int32 × pMem) : pZt := (fun _ => FA E, fun _ _ => True, fun s args below => MQ below (gQ E K.2.2.2.1 z) args s K.2.2.2.2.2.1 K.2.2.2.2.2.2 (FA E))
/-- in a method -/
abbrev gM (E : pEv) (K : pKi) (z : Int32 × pMem) : Nat → List (Nat × Value) → List Value → pMem → Prop := gG E K (gZ E K z)
theorem g_ret {E : pEv} {K : pKi} {pc : Nat} {lv : List (Nat × Value)} {m : pMem} {v : Int32} {ty : FieldType} {z : Int32 × pMem} (hd : decode K.1 pc = .ok (.ireturn, 1)) (hr : K.2.2.2.1 = some ty) (hn : narrow ty (.int v) = .int v) (hz : z = (v, m)) : gM E K z pc lv [.int v] m := by
  subst hz
  refine g_iret (Qc := gQ E K.2.2.2.1 (v, m)) (fr := FA E) hd hr hn (fun s args below => rfl) (fun s q h => h) ?_
  intro s args t H locs ht hW hP hS hK hD hA
  unfold gQ
  rw [hr, if_neg (by simp)]
  exact ⟨⟨v, m, rfl, ⟨rfl, rfl⟩, by rw [ht]; exact hP, hK.moved hW ht hS hA, hD⟩, hS.F ht⟩
theorem g_retv {E : pEv} {K : pKi} {pc : Nat} {lv : List (Nat × Value)} {m : pMem} {z : Int32 × pMem} (hd : decode K.1 pc = .ok (.return_, 1)) (hr : K.2.2.2.1 = none) (hz : z.2 = m) : gM E K z pc lv [] m := by
  subst hz
  refine g_vret (Qc := gQ E K.2.2.2.1 z) (fr := FA E) hd hr (fun s args below => rfl) (fun s q h => h) ?_
  intro s args t H locs ht hW hP hS hK hD hA
  unfold gQ
  rw [hr, if_pos rfl]
  exact ⟨⟨z.2, rfl, rfl, by rw [ht]; exact hP, hK.moved hW ht hS hA, hD⟩, hS.F ht⟩
/-- a method's contract over the one world -/
def gCn (E : pEv) (y : MethodName) (K : pKi) (av : List Value) (m : pMem) (z : Int32 × pMem) : Prop := Met (eL E) y (.code y K.1 K.2.2.1 K.2.2.2.1 :: gAW) K.2.2.2.2.1 (va_Pc av (gWd E m)) (gQ E K.2.2.2.1 z) 0 0 (FA E)
theorem gCn_of {E : pEv} {y : MethodName} {K : pKi} {av : List Value} {m : pMem} {z : Int32 × pMem} {lv : List (Nat × Value)} (hy : plainName y.cls = true) (ho : K.2.1 = y.cls) (hK0 : K.2.2.2.2.2.1 = 0) (hK1 : K.2.2.2.2.2.2 = 0) (hn : (lg_sl av).length ≤ K.2.2.1) (hlv : lv_args 0 av = lv) (h : gM E K z 0 lv [] m) : gCn E y K av m z := by
  refine Met.ofW (cc := K.1) (maxL := K.2.2.1) (ret := K.2.2.2.1) hy rfl ?_
  intro p e s mm args below meth c s₁ B hml hv
  obtain ⟨rfl, hP, hKK, hD⟩ := hv
  have hts := atoms_spec (ws := .code y K.1 K.2.2.1 K.2.2.2.1 :: gAW) B.pre
  have hown : s.vm.findClass y.cls = some mm.cls := findClass_of_methodNamed B.named
  have hl := lv_entry av hn
  rw [lg_entry_eq]
  rw [hlv] at hl
  have h1 := h p e s mm av.toArray below meth c s.heap [] _ ⟨B.exec, B.bytes, hml, by rw [ho]; exact hown, fun w hw => hts w (List.mem_cons_of_mem _ hw), B.returns, B.notSynchronized, hKK, hD, fun k hk => ⟨k, hk, rfl⟩, fun a _ z => z, trivial⟩ hl hP va_S.rf
  have e1 : (gZ E K z).2.2 s av.toArray below = MQ below (gQ E K.2.2.2.1 z) av.toArray s K.2.2.2.2.2.1 K.2.2.2.2.2.2 (FA E) := rfl
  rw [e1] at h1
  rw [hK0, hK1] at h1
  exact h1
section GC
variable {E : pEv} {K : pKi} {Z : pZt} {pc : Nat} {lv : List (Nat × Value)} {st : List Value} {m : pMem}
theorem gPc_blind {E : pEv} {av : List Value} {m : pMem} : FrameBlind (va_Pc av (gWd E m)) := fun a U g mk h => ⟨h.1, h.2.1, h.2.2.1.calling, h.2.2.2⟩
/-- the room of a call -/
def gRm (K K' : pKi) : Prop := K'.2.2.2.2.1.cells = 0 ∧ K'.2.2.2.2.1.slots = 0 ∧ K'.2.2.2.2.1.frames + 1 ≤ K.2.2.2.2.1.frames ∧ 8 + (K'.2.2.1 + 11) + K'.2.2.2.2.1.locals ≤ K.2.2.2.2.1.locals ∧ K.2.2.2.2.2.1 ≤ K.2.2.2.2.1.cells ∧ K.2.2.2.2.2.2 ≤ K.2.2.2.2.1.slots
/-- a method's own words -/
def gY (y : MethodName) (K : pKi) (n : Nat) : Prop := Cond.code y K.1 K.2.2.1 K.2.2.2.1 ∈ gAW ∧ Cond.initialized y.cls ∈ gAW ∧ (y.cls ≠ "java/lang/invoke/MethodHandle" ∧ y.cls ≠ "java/lang/invoke/VarHandle" ∧ (parseMethodDescriptor y.desc).map (fun d => d.parameters.length) = some n)
theorem g_run {idx n : Nat} {y : MethodName} {K' : pKi} {s : State} {args : Array Value} (hts : ∀ w, w ∈ gAW → w.before args s = true) (hY : gY y K' n) (hR : gRm K K') (hml : Cond.methodLink K.2.1 idx y ∈ gAW) : CallB K.2.2.2.2.1 s args K.2.1 idx y K'.1 K'.2.2.1 K'.2.2.2.1 (.code y K'.1 K'.2.2.1 K'.2.2.2.1 :: gAW) K'.2.2.2.2.1 0 0 n :=
  callB_of n hts (gAW_cons hY.1) rfl hR.1 hR.2.1 (hts _ hY.2.1) (hts _ hml) hY.2.2 ⟨hR.2.2.1, hR.2.2.2.1⟩
theorem gQ_i {E : pEv} {ret : Option FieldType} {ty : FieldType} (h : ret = some ty) (z : Int32 × pMem) : gQ E ret z = va_Qi (fun (r : Int32) (u : pMem) => r = z.1 ∧ u = z.2) (fun u t => gWd E u t) (FA E) := by
  unfold gQ
  rw [h, if_neg (by simp)]
theorem gQ_v {E : pEv} {ret : Option FieldType} (h : ret = none) (z : Int32 × pMem) : gQ E ret z = va_Qv (fun u : pMem => u = z.2) (fun u t => gWd E u t) (FA E) := by
  unfold gQ
  rw [h, if_pos rfl]
theorem g_pre {s U : State} {m : pMem} {A : Nat → Prop} {H : Heap} {locs : List Loc} (hU : U.heap = H) (hW : s.WarmedH U.vm) (hP : va_P (eD E) gcl (wG E m) H) (hS : va_S A s.heap H locs) (hK : gKK E s) (hD : gDs E) (hA : ∀ a, a < s.heap.size → A a → FA E a) : gWd E m U := ⟨by rw [hU]; exact hP, hK.moved hW hU hS hA, hD⟩
theorem g_callV {idx n ci k N : Nat} {y : MethodName} {K' : pKi} {T : u_T} {As sk fs : List Value} {z : Int32 × pMem} {ty : FieldType} (hd : decode K.1 pc = .ok (.invokevirtual idx, 3)) (hM : gCn E y K' (.ref (eA E k) :: As) m z) (hY : gY y K' n) (hI : Cond.instanceMethod y ∈ gAW) (hX : Cond.selects y.cls y y ∈ gAW) (hL : Cond.methodLink K.2.1 idx y ∈ gAW) (hR : gRm K K') (hr : K'.2.2.2.1 = some ty) (ho : (wG E m)[k]? = some (eA E k, .inr (ci, fs))) (hc : gcl[ci]? = some (y.cls, T, N)) (hn : As.length = n) (hsk : sk = As.reverse ++ .ref (eA E k) :: st) (h8 : (st.map fun v => v.category).sum ≤ 8) (h : gG E K Z (pc + 3) lv (.int z.1 :: st) z.2) : gG E K Z pc lv sk m := by
  intro p e s mm args below meth c H locs ls C hl hP hS
  subst hsk
  unfold gCn at hM
  rw [gQ_i hr] at hM
  refine va_calli (va_runV ⟨C.1, C.2.1, C.2.2.1, C.2.2.2.1, C.2.2.2.2.1⟩ hM ⟨g_run C.2.2.2.2.1 hY hR hL, C.2.2.2.2.1 _ hI, C.2.2.2.2.1 _ hX⟩ ⟨gPc_blind, va_recv C.2.2.2.2.2.2.2.1.1 hP hc ho, fun U hU hW => ⟨rfl, g_pre hU hW hP hS C.2.2.2.2.2.2.2.1 C.2.2.2.2.2.2.2.2.1 C.2.2.2.2.2.2.2.2.2.2.1⟩⟩ rfl hn hl.1 rfl (lv_room h8) hd ⟨hR.2.2.2.2.1, hR.2.2.2.2.2⟩) hS (fun q _ hq => ?_) (fun q hq => ?_) (fun r u t H1 locs1 ht hvm hpo hB hz1 hk1 hS1 => ?_)
  · obtain ⟨k, hk, rfl⟩ := hq
    exact C.2.2.2.2.2.2.2.2.2.1 k hk
  · obtain ⟨k, hk, rfl⟩ := hq
    exact C.2.2.2.2.2.2.2.2.2.1 k hk
  · obtain ⟨rfl, rfl⟩ := hpo
    have hP1 := hB.1
    rw [ht] at hP1
    exact h p e s mm args below meth c H1 locs1 ls C hl hP1 hS1
theorem g_callVv {idx n ci k N : Nat} {y : MethodName} {K' : pKi} {T : u_T} {As sk fs : List Value} {z : Int32 × pMem} (hd : decode K.1 pc = .ok (.invokevirtual idx, 3)) (hM : gCn E y K' (.ref (eA E k) :: As) m z) (hY : gY y K' n) (hI : Cond.instanceMethod y ∈ gAW) (hX : Cond.selects y.cls y y ∈ gAW) (hL : Cond.methodLink K.2.1 idx y ∈ gAW) (hR : gRm K K') (hr : K'.2.2.2.1 = none) (ho : (wG E m)[k]? = some (eA E k, .inr (ci, fs))) (hc : gcl[ci]? = some (y.cls, T, N)) (hn : As.length = n) (hsk : sk = As.reverse ++ .ref (eA E k) :: st) (h8 : (st.map fun v => v.category).sum ≤ 8) (h : gG E K Z (pc + 3) lv st z.2) : gG E K Z pc lv sk m := by
  intro p e s mm args below meth c H locs ls C hl hP hS
  subst hsk
  unfold gCn at hM
  rw [gQ_v hr] at hM
  refine va_callv (va_runV ⟨C.1, C.2.1, C.2.2.1, C.2.2.2.1, C.2.2.2.2.1⟩ hM ⟨g_run C.2.2.2.2.1 hY hR hL, C.2.2.2.2.1 _ hI, C.2.2.2.2.1 _ hX⟩ ⟨gPc_blind, va_recv C.2.2.2.2.2.2.2.1.1 hP hc ho, fun U hU hW => ⟨rfl, g_pre hU hW hP hS C.2.2.2.2.2.2.2.1 C.2.2.2.2.2.2.2.2.1 C.2.2.2.2.2.2.2.2.2.2.1⟩⟩ rfl hn hl.1 rfl (lv_room h8) hd ⟨hR.2.2.2.2.1, hR.2.2.2.2.2⟩) hS (fun q _ hq => ?_) (fun q hq => ?_) (fun u t H1 locs1 ht hvm hpo hB hz1 hk1 hS1 => ?_)
  · obtain ⟨k, hk, rfl⟩ := hq
    exact C.2.2.2.2.2.2.2.2.2.1 k hk
  · obtain ⟨k, hk, rfl⟩ := hq
    exact C.2.2.2.2.2.2.2.2.2.1 k hk
  · obtain rfl := hpo
    have hP1 := hB.1
    rw [ht] at hP1
    exact h p e s mm args below meth c H1 locs1 ls C hl hP1 hS1
theorem g_callS {idx n : Nat} {y : MethodName} {K' : pKi} {As sk : List Value} {z : Int32 × pMem} {ty : FieldType} (hd : decode K.1 pc = .ok (.invokestatic idx, 3)) (hM : gCn E y K' As m z) (hY : gY y K' n) (hI : Cond.static y ∈ gAW) (hL : Cond.methodLink K.2.1 idx y ∈ gAW) (hR : gRm K K') (hr : K'.2.2.2.1 = some ty) (hn : As.length = n) (hsk : sk = As.reverse ++ st) (h8 : (st.map fun v => v.category).sum ≤ 8) (h : gG E K Z (pc + 3) lv (.int z.1 :: st) z.2) : gG E K Z pc lv sk m := by
  intro p e s mm args below meth c H locs ls C hl hP hS
  subst hsk
  unfold gCn at hM
  rw [gQ_i hr] at hM
  refine va_calli (va_runS ⟨C.1, C.2.1, C.2.2.1, C.2.2.2.1, C.2.2.2.2.1⟩ hM ⟨g_run C.2.2.2.2.1 hY hR hL, C.2.2.2.2.1 _ hI⟩ ⟨gPc_blind, fun U hU hW => ⟨rfl, g_pre hU hW hP hS C.2.2.2.2.2.2.2.1 C.2.2.2.2.2.2.2.2.1 C.2.2.2.2.2.2.2.2.2.2.1⟩⟩ rfl hn hl.1 rfl (lv_room h8) hd ⟨hR.2.2.2.2.1, hR.2.2.2.2.2⟩) hS (fun q _ hq => ?_) (fun q hq => ?_) (fun r u t H1 locs1 ht hvm hpo hB hz1 hk1 hS1 => ?_)
  · obtain ⟨k, hk, rfl⟩ := hq
    exact C.2.2.2.2.2.2.2.2.2.1 k hk
  · obtain ⟨k, hk, rfl⟩ := hq
    exact C.2.2.2.2.2.2.2.2.2.1 k hk
  · obtain ⟨rfl, rfl⟩ := hpo
    have hP1 := hB.1
    rw [ht] at hP1
    exact h p e s mm args below meth c H1 locs1 ls C hl hP1 hS1
theorem g_callSv {idx n : Nat} {y : MethodName} {K' : pKi} {As sk : List Value} {z : Int32 × pMem} (hd : decode K.1 pc = .ok (.invokestatic idx, 3)) (hM : gCn E y K' As m z) (hY : gY y K' n) (hI : Cond.static y ∈ gAW) (hL : Cond.methodLink K.2.1 idx y ∈ gAW) (hR : gRm K K') (hr : K'.2.2.2.1 = none) (hn : As.length = n) (hsk : sk = As.reverse ++ st) (h8 : (st.map fun v => v.category).sum ≤ 8) (h : gG E K Z (pc + 3) lv st z.2) : gG E K Z pc lv sk m := by
  intro p e s mm args below meth c H locs ls C hl hP hS
  subst hsk
  unfold gCn at hM
  rw [gQ_v hr] at hM
  refine va_callv (va_runS ⟨C.1, C.2.1, C.2.2.1, C.2.2.2.1, C.2.2.2.2.1⟩ hM ⟨g_run C.2.2.2.2.1 hY hR hL, C.2.2.2.2.1 _ hI⟩ ⟨gPc_blind, fun U hU hW => ⟨rfl, g_pre hU hW hP hS C.2.2.2.2.2.2.2.1 C.2.2.2.2.2.2.2.2.1 C.2.2.2.2.2.2.2.2.2.2.1⟩⟩ rfl hn hl.1 rfl (lv_room h8) hd ⟨hR.2.2.2.2.1, hR.2.2.2.2.2⟩) hS (fun q _ hq => ?_) (fun q hq => ?_) (fun u t H1 locs1 ht hvm hpo hB hz1 hk1 hS1 => ?_)
  · obtain ⟨k, hk, rfl⟩ := hq
    exact C.2.2.2.2.2.2.2.2.2.1 k hk
  · obtain ⟨k, hk, rfl⟩ := hq
    exact C.2.2.2.2.2.2.2.2.2.1 k hk
  · obtain rfl := hpo
    have hP1 := hB.1
    rw [ht] at hP1
    exact h p e s mm args below meth c H1 locs1 ls C hl hP1 hS1
theorem g_callSN {idx n : Nat} {y : MethodName} {K' : pKi} {As sk : List Value} {z : Int32 × pMem} {ty : FieldType} (hd : decode K.1 pc = .ok (.invokestatic idx, 3)) (hM : gCn E y K' As m z) (hY : gY y K' n) (hI : Cond.static y ∈ gAW) (hL : (K.2.1, idx, y, "PartedLand") ∈ gNs) (hR : gRm K K') (hr : K'.2.2.2.1 = some ty) (hn : As.length = n) (hsk : sk = As.reverse ++ st) (h8 : (st.map fun v => v.category).sum ≤ 8) (h : gG E K Z (pc + 3) lv (.int z.1 :: st) z.2) : gG E K Z pc lv sk m := by
  intro p e s mm args below meth c H locs ls C hl hP hS
  subst hsk
  unfold gCn at hM
  rw [gQ_i hr] at hM
  refine va_calli (va_runSN (host := "PartedLand") ⟨C.1, C.2.1, C.2.2.1, C.2.2.2.1, C.2.2.2.2.1⟩ hM ⟨va_cnB n C.2.2.2.2.1 (gAW_cons hY.1) rfl hR.1 hR.2.1 (C.2.2.2.2.2.2.2.1.2.1 _ hL) (C.2.2.2.2.1 _ hY.2.1) hY.2.2 ⟨hR.2.2.1, hR.2.2.2.1⟩, C.2.2.2.2.1 _ hI, trivial⟩ ⟨gPc_blind, fun U hU hW => ⟨rfl, g_pre hU hW hP hS C.2.2.2.2.2.2.2.1 C.2.2.2.2.2.2.2.2.1 C.2.2.2.2.2.2.2.2.2.2.1⟩⟩ rfl hn hl.1 rfl (lv_room h8) hd ⟨hR.2.2.2.2.1, hR.2.2.2.2.2⟩) hS (fun q _ hq => ?_) (fun q hq => ?_) (fun r u t H1 locs1 ht hvm hpo hB hz1 hk1 hS1 => ?_)
  · obtain ⟨k, hk, rfl⟩ := hq
    exact C.2.2.2.2.2.2.2.2.2.1 k hk
  · obtain ⟨k, hk, rfl⟩ := hq
    exact C.2.2.2.2.2.2.2.2.2.1 k hk
  · obtain ⟨rfl, rfl⟩ := hpo
    have hP1 := hB.1
    rw [ht] at hP1
    exact h p e s mm args below meth c H1 locs1 ls C hl hP1 hS1
theorem g_max {idx : Nat} {x y : Int32} (hd : decode K.1 pc = .ok (.invokestatic idx, 3)) (hL : Cond.methodLink K.2.1 idx Lib.Math.max.name ∈ gAW) (hw1 : Cond.static Lib.Math.max.name ∈ gAW) (hw2 : Cond.initialized "java/lang/Math" ∈ gAW) (hw3 : Cond.code Lib.Math.max.name Lib.Math.max.code 2 (some .int) ∈ gAW) (hR : 1 ≤ K.2.2.2.2.1.frames ∧ (st.map fun v => v.category).sum + 13 ≤ K.2.2.2.2.1.locals ∧ K.2.2.2.2.2.1 ≤ K.2.2.2.2.1.cells ∧ K.2.2.2.2.2.2 ≤ K.2.2.2.2.1.slots) (h : gG E K Z (pc + 3) lv (.int (if x < y then y else x) :: st) m) : gG E K Z pc lv (.int y :: .int x :: st) m := by
  intro p e s mm args below meth c H locs ls C hl hP hS
  exact va_mmax C.1 C.2.1 (by rw [C.2.2.1, hl.1]) C.2.2.2.1 (C.2.2.2.2.1 _ hL) (C.2.2.2.2.1 _ hw1) (C.2.2.2.2.1 _ hw2) (C.2.2.2.2.1 _ hw3) hR.1 hR.2.1 hR.2.2.1 hR.2.2.2 hd (h p e s mm args below meth c H locs ls C hl hP hS)
theorem g_copy {idx a b n1 n2 : Nat} {sp dp n : Int32} (hd : decode K.1 pc = .ok (.invokestatic idx, 3)) (hL : Cond.methodLink K.2.1 idx arraycopyName ∈ gAW) (hw1 : Cond.native arraycopyName ∈ gAW) (hw2 : Cond.static arraycopyName ∈ gAW) (hw3 : Cond.initialized "java/lang/System" ∈ gAW) (ha : gAr a n1 .int) (hb : gAr b n2 .int) (h1 : ¬ sp < 0) (h2 : ¬ dp < 0) (h3 : ¬ n < 0) (h4 : sp.toNatClampNeg + n.toNatClampNeg ≤ n1) (h5 : dp.toNatClampNeg + n.toNatClampNeg ≤ n2) (hR : 1 ≤ K.2.2.2.2.1.frames ∧ (st.map fun v => v.category).sum + (nativeFrameWords "java/lang/System" "arraycopy" 5 + 11) ≤ K.2.2.2.2.1.locals) (h : gG E K Z (pc + 3) lv st (up1 m b (va_cpy (m.1 a) (m.1 b) sp.toNatClampNeg dp.toNatClampNeg n.toNatClampNeg))) : gG E K Z pc lv (.int n :: .int dp :: .ref (eA E b) :: .int sp :: .ref (eA E a) :: st) m := by
  intro p e s mm args below meth c H locs ls C hl hP hS
  obtain ⟨a1, ⟨t1, a2⟩, -⟩ := ha E m
  obtain ⟨b1, ⟨t2, b2⟩, b3⟩ := hb E m
  refine va_copyi C.1 C.2.1 (by rw [C.2.2.1, hl.1]) C.2.2.2.1 (C.2.2.2.2.1 _ hL) (C.2.2.2.2.1 _ hw1) (C.2.2.2.2.1 _ hw2) (C.2.2.2.2.1 _ hw3) C.2.2.2.2.2.2.2.1.1 hP (wG_D C.2.2.2.2.2.2.2.2.1 C.2.2.2.2.2.2.2.2.2.1 m) hS a b t1 t2 a1 b1 a2 b2 rfl h1 h2 h3 h4 h5 (fun i hi => rfl) hR.1 hR.2 hd (fun H1 locs1 hP1 hD1 hS1 => ?_)
  rw [b3] at hP1
  exact h p e s mm args below meth c H1 locs1 ls C hl hP1 hS1
theorem gAW_ps (ws : List Cond) (ps : List Nat) (hp : ws = ps.filterMap (fun i => tables_1[i]?)) (h : ws.all goodWord = true) : ∀ w, w ∈ ws → w ∈ gAW := by
  intro w hw
  have h1 := List.all_eq_true.mp h w hw
  rw [hp] at hw
  obtain ⟨i, -, hi⟩ := List.mem_filterMap.mp hw
  exact gAW_at i hi h1
end GC
/-! shallow functions: how a walk reads them -/
abbrev gO : Type := Option (Int32 × pMem)
def bnd {α β : Type} (a : α) (f : α → β) : β := f a
theorem it_ {c : Prop} [Decidable c] {α : Type} {a b z : α} (h : (if c then a else b) = z) (hc : c) : a = z := by rw [if_pos hc] at h; exact h
theorem ie_ {c : Prop} [Decidable c] {α : Type} {a b z : α} (h : (if c then a else b) = z) (hc : ¬ c) : b = z := by rw [if_neg hc] at h; exact h
theorem gd_ {c : Prop} [Decidable c] {α : Type} {b : Option α} {z : α} (h : (if c then none else b) = some z) : ¬ c ∧ b = some z := by
  by_cases hc : c
  · rw [if_pos hc] at h; cases h
  · rw [if_neg hc] at h; exact ⟨hc, h⟩
/-- a call that writes -/
def cbE (o : gO) (f : Int32 → pMem → gO) : gO := match o with
  | none => none
  | some q => f q.1 q.2
/-- a call that reads -/
def cbR {β : Type} (o : Option Int32) (f : Int32 → Option β) : Option β := match o with
  | none => none
  | some q => f q
theorem cbE_ {o : gO} {f : Int32 → pMem → gO} {z : Int32 × pMem} (h : cbE o f = some z) : ∃ r m, o = some (r, m) ∧ f r m = some z := by
  cases o with
  | none => cases h
  | some q => exact ⟨q.1, q.2, rfl, h⟩
theorem cbR_ {β : Type} {o : Option Int32} {f : Int32 → Option β} {z : β} (h : cbR o f = some z) : ∃ r, o = some r ∧ f r = some z := by
  cases o with
  | none => cases h
  | some q => exact ⟨q, rfl, h⟩
theorem nmG {E : pEv} {K : pKi} {Z : pZt} {pc : Nat} {lv : List (Nat × Value)} {st : List Value} {β : Type} {a : pMem} {f : pMem → Option β} {z : β} (h : bnd a f = some z) (k : ∀ x, f x = some z → gG E K Z pc lv st x) : gG E K Z pc lv st a := k a h
theorem nmI {E : pEv} {K : pKi} {Z : pZt} {pc : Nat} {lv : List (Nat × Value)} {st : List Value} {m : pMem} {β : Type} {a : Int32} {f : Int32 → Option β} {z : β} (h : bnd a f = some z) (k : ∀ x, f x = some z → gG E K Z pc lv (.int x :: st) m) : gG E K Z pc lv (.int a :: st) m := k a h
theorem nmL {E : pEv} {K : pKi} {Z : pZt} {pc : Nat} {lv : List (Nat × Value)} {st : List Value} {m : pMem} {β : Type} {a : Int64} {f : Int64 → Option β} {z : β} (h : bnd a f = some z) (k : ∀ x, f x = some z → gG E K Z pc lv (.long x :: st) m) : gG E K Z pc lv (.long a :: st) m := k a h

