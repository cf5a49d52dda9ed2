/-! what holds between the calls of a script: the class's cells and the reference's say the same -/
theorem zg (s : Pl) (k : Nat) (i v : Int) (a : Nat) (b : Int) : zup s k i v a b = if a = k ∧ b = i then v else s a b := by
  unfold zup
  by_cases h : a = k
  · subst h; by_cases h2 : b = i <;> simp [h2]
  · simp [h]
def vL (s : Pl) : Prop := (s 72 2 = s 1 0 ∧ 0 ≤ s 1 0 ∧ s 1 0 < 4) ∧ (s 72 3 = s 1 1 ∧ 0 ≤ s 1 1 ∧ s 1 1 ≤ 6) ∧ (s 72 14 = s 1 2 ∧ 0 ≤ s 1 2 ∧ s 1 2 < s 0 4) ∧ s 72 13 = s 0 4 ∧ 1 ≤ s 0 4 ∧ s 0 4 ≤ 6
def mL (c : Nat) (i : Int) : Prop := c = 1 ∧ 0 ≤ i ∧ i ≤ 2 ∨ c = 72 ∧ (i = 2 ∨ i = 3 ∨ i = 13 ∨ i = 14) ∨ c = 0 ∧ i = 4
def vH (s : Pl) : Prop := ∀ i, 0 ≤ i → i < 16 → s 73 i = s 9 i
def mH (c : Nat) (_ : Int) : Prop := c = 9 ∨ c = 73
def vP1 (s : Pl) (p : Int) : Prop := (s 75 p = s 2 p ∧ 0 ≤ s 2 p ∧ s 2 p ≤ 4) ∧ (s 74 p = s 3 p ∧ 0 ≤ s 3 p ∧ s 3 p ≤ 5) ∧ (s 76 p = s 4 p ∧ 0 ≤ s 4 p ∧ s 4 p < 4) ∧ (s 77 p = s 5 p ∧ 0 ≤ s 5 p ∧ s 5 p ≤ 99) ∧ (s 78 p = s 6 p ∧ 0 ≤ s 6 p ∧ s 6 p ≤ 99) ∧ (s 79 p = s 7 p ∧ 0 ≤ s 7 p ∧ s 7 p < 6) ∧ s 80 p = s 8 p ∧ 0 ≤ s 8 p ∧ s 8 p < 64
def vP (s : Pl) : Prop := ∀ p, 0 ≤ p → p < s 1 1 → vP1 s p
def mP (c : Nat) (i : Int) : Prop := c = 1 ∧ i = 1 ∨ 2 ≤ c ∧ c ≤ 8 ∨ 74 ≤ c ∧ c ≤ 80
def vM (s : Pl) : Prop := s 72 29 = s 68 4 ∧ 0 ≤ s 68 4 ∧ s 68 4 ≤ 16 ∧ ∀ k, 0 ≤ k → k < s 68 4 → (s 89 k = s 69 k ∧ 0 ≤ s 69 k ∧ s 69 k ≤ 2) ∧ (s 90 k = s 70 k ∧ 0 ≤ s 70 k ∧ s 70 k ≤ 99 ∧ (s 69 k = 0 → s 70 k ≤ 3) ∧ (s 69 k = 1 → s 70 k ≤ 5)) ∧ s 91 k = s 71 k ∧ 0 ≤ s 71 k ∧ s 71 k ≤ 5
def mM (c : Nat) (i : Int) : Prop := c = 68 ∧ i = 4 ∨ 69 ≤ c ∧ c ≤ 71 ∨ c = 72 ∧ i = 29 ∨ 89 ≤ c ∧ c ≤ 91
def vT (s : Pl) : Prop := s 72 12 = s 53 1 ∧ 0 ≤ s 53 1 ∧ s 53 1 ≤ 160 ∧ ∀ k, 0 ≤ k → k < s 53 1 → 0 ≤ s 54 k ∧ s 54 k ≤ 255 ∧ s 81 k = zb8 (s 54 k)
def mT (c : Nat) (i : Int) : Prop := c = 53 ∧ i = 1 ∨ c = 54 ∨ c = 72 ∧ i = 12 ∨ c = 81
def vK1 (s : Pl) : Prop := (s 72 47 = s 10 0 ∧ 0 ≤ s 10 0 ∧ s 10 0 < 4) ∧ (s 72 46 = s 10 1 ∧ 0 ≤ s 10 1 ∧ s 10 1 ≤ s 1 1) ∧ (s 72 48 = s 10 2 ∧ 0 ≤ s 10 2 ∧ s 10 2 < s 0 4) ∧ (∀ i, 0 ≤ i → i < 16 → s 101 i = s 18 i) ∧ ∀ p, 0 ≤ p → p < s 10 1 → (s 99 p = s 11 p ∧ 0 ≤ s 11 p ∧ s 11 p ≤ 4) ∧ (s 100 p = s 17 p ∧ 0 ≤ s 17 p ∧ s 17 p < 64) ∧ s 12 p = s 3 p ∧ s 13 p = s 4 p ∧ s 14 p = s 5 p ∧ s 15 p = s 6 p ∧ s 16 p = s 7 p
def vK (s : Pl) : Prop := s 72 45 = s 0 2 ∧ (s 0 2 ≠ 0 → vK1 s)
def mK (c : Nat) (i : Int) : Prop := c = 0 ∧ (i = 2 ∨ i = 4) ∨ c = 1 ∧ i = 1 ∨ 3 ≤ c ∧ c ≤ 7 ∨ 10 ≤ c ∧ c ≤ 18 ∨ c = 72 ∧ 45 ≤ i ∧ i ≤ 48 ∨ 99 ≤ c ∧ c ≤ 101
def vS1 (s : Pl) (t : Nat) : Prop := s 102 t = s (45 + 2 * t) 0 ∧ -1 ≤ s 102 t ∧ s 102 t ≤ 2 ∧ (s 102 t ≠ -1 → s 103 t = s (45 + 2 * t) 1 ∧ 0 ≤ s 103 t ∧ s 103 t ≤ 40 ∧ ∀ i, 0 ≤ i → i < s 103 t → s 104 (40 * t + i) = s (46 + 2 * t) i)
def vS (s : Pl) : Prop := vS1 s 0 ∧ vS1 s 1 ∧ vS1 s 2 ∧ vS1 s 3
def mS (c : Nat) (i : Int) : Prop := 45 ≤ c ∧ c ≤ 52 ∨ 102 ≤ c ∧ c ≤ 104
theorem cL {s s1 : Pl} (h : ∀ c i, mL c i → s1 c i = s c i) (v : vL s) : vL s1 := by
  unfold vL at *
  rw [h 72 2 (by simp [mL]), h 72 3 (by simp [mL]), h 72 13 (by simp [mL]), h 72 14 (by simp [mL]), h 1 0 (by simp [mL]), h 1 1 (by simp [mL]), h 1 2 (by simp [mL]), h 0 4 (by simp [mL])]
  exact v
theorem cH {s s1 : Pl} (h : ∀ c i, mH c i → s1 c i = s c i) (v : vH s) : vH s1 := by
  intro i h0 h1
  rw [h 73 i (by simp [mH]), h 9 i (by simp [mH])]
  exact v i h0 h1
theorem cP1 {s s1 : Pl} {p : Int} (h : ∀ c i, mP c i → s1 c i = s c i) (v : vP1 s p) : vP1 s1 p := by
  unfold vP1 at *
  rw [h 75 p (by simp [mP]), h 2 p (by simp [mP]), h 74 p (by simp [mP]), h 3 p (by simp [mP]), h 76 p (by simp [mP]), h 4 p (by simp [mP]), h 77 p (by simp [mP]), h 5 p (by simp [mP]), h 78 p (by simp [mP]), h 6 p (by simp [mP]), h 79 p (by simp [mP]), h 7 p (by simp [mP]), h 80 p (by simp [mP]), h 8 p (by simp [mP])]
  exact v
theorem cP {s s1 : Pl} (h : ∀ c i, mP c i → s1 c i = s c i) (v : vP s) : vP s1 := by
  intro p h0 h1
  rw [h 1 1 (by simp [mP])] at h1
  exact cP1 h (v p h0 h1)
theorem cM {s s1 : Pl} (h : ∀ c i, mM c i → s1 c i = s c i) (v : vM s) : vM s1 := by
  unfold vM at *
  rw [h 72 29 (by simp [mM]), h 68 4 (by simp [mM])]
  refine ⟨v.1, v.2.1, v.2.2.1, fun k h0 h1 => ?_⟩
  rw [h 89 k (by simp [mM]), h 69 k (by simp [mM]), h 90 k (by simp [mM]), h 70 k (by simp [mM]), h 91 k (by simp [mM]), h 71 k (by simp [mM])]
  exact v.2.2.2 k h0 h1
theorem cT {s s1 : Pl} (h : ∀ c i, mT c i → s1 c i = s c i) (v : vT s) : vT s1 := by
  unfold vT at *
  rw [h 72 12 (by simp [mT]), h 53 1 (by simp [mT])]
  refine ⟨v.1, v.2.1, v.2.2.1, fun k h0 h1 => ?_⟩
  rw [h 54 k (by simp [mT]), h 81 k (by simp [mT])]
  exact v.2.2.2 k h0 h1
theorem cK {s s1 : Pl} (h : ∀ c i, mK c i → s1 c i = s c i) (v : vK s) : vK s1 := by
  unfold vK vK1 at *
  rw [h 72 45 (by simp [mK]), h 0 2 (by simp [mK]), h 72 46 (by simp [mK]), h 72 47 (by simp [mK]), h 72 48 (by simp [mK]), h 10 0 (by simp [mK]), h 10 1 (by simp [mK]), h 10 2 (by simp [mK]), h 1 1 (by simp [mK]), h 0 4 (by simp [mK])]
  refine ⟨v.1, fun h9 => ⟨(v.2 h9).1, (v.2 h9).2.1, (v.2 h9).2.2.1, fun i h0 h1 => ?_, fun p h0 h1 => ?_⟩⟩
  · rw [h 101 i (by simp [mK]), h 18 i (by simp [mK])]
    exact (v.2 h9).2.2.2.1 i h0 h1
  · rw [h 99 p (by simp [mK]), h 11 p (by simp [mK]), h 100 p (by simp [mK]), h 17 p (by simp [mK]), h 12 p (by simp [mK]), h 3 p (by simp [mK]), h 13 p (by simp [mK]), h 4 p (by simp [mK]), h 14 p (by simp [mK]), h 5 p (by simp [mK]), h 15 p (by simp [mK]), h 6 p (by simp [mK]), h 16 p (by simp [mK]), h 7 p (by simp [mK])]
    exact (v.2 h9).2.2.2.2 p h0 h1
theorem cS1 {s s1 : Pl} {t : Nat} (ht : t < 4) (h : ∀ c i, mS c i → s1 c i = s c i) (v : vS1 s t) : vS1 s1 t := by
  unfold vS1 at *
  rw [h 102 t (by simp [mS]), h 103 t (by simp [mS]), h (45 + 2 * t) 0 (by simp [mS]; omega), h (45 + 2 * t) 1 (by simp [mS]; omega)]
  refine ⟨v.1, v.2.1, v.2.2.1, fun h9 => ⟨(v.2.2.2 h9).1, (v.2.2.2 h9).2.1, (v.2.2.2 h9).2.2.1, fun i h0 h1 => ?_⟩⟩
  rw [h 104 _ (by simp [mS]), h (46 + 2 * t) i (by simp [mS]; omega)]
  exact (v.2.2.2 h9).2.2.2 i h0 h1
theorem cS {s s1 : Pl} (h : ∀ c i, mS c i → s1 c i = s c i) (v : vS s) : vS s1 :=
  ⟨cS1 (by decide) h v.1, cS1 (by decide) h v.2.1, cS1 (by decide) h v.2.2.1, cS1 (by decide) h v.2.2.2⟩
