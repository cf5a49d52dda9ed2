/-! what a law says -/
def gd (f g : Int → Int) : Prop := ∃ e0 e1 e2 : Nat, (e0 ≤ e1 ∧ e1 ≤ e2 ∧ e2 ≤ 160) ∧ (g 0 = (e0 : Nat) ∧ g 1 = (e1 : Nat) ∧ g 2 = (e2 : Nat)) ∧ (∀ k : Nat, k < e2 → okc (f (k : Nat))) ∧ dp f 0 e0 0 = some 1 ∧ dp f e0 (e1 - e0) 0 = some 1 ∧ dp f e1 (e2 - e1) 0 = some 1
def lawV (f g nm : Int → Int) (part : Int) : Int :=
  (exs nm f (if part = 0 then 0 else g (part - 1)).toNat ((g part).toNat - (if part = 0 then 0 else g (part - 1)).toNat) []).headD 0
def vX0 (s : Pl) : Prop := (s 22 0 = 1 ∧ s 22 1 = -4 ∧ s 22 2 = -4 ∧ s 22 3 = -5 ∧ s 22 4 = -6 ∧ s 22 5 = 1 ∧ s 22 6 = -43 ∧ s 22 7 = -60 ∧ s 22 8 = -42) ∧ s 23 0 = 1 ∧ s 23 1 = 2 ∧ s 23 2 = 9
def vX1 (s : Pl) (t : Nat) : Prop := gd (s (22 + 4 * t)) (s (23 + 4 * t)) ∧ (∀ i : Int, 0 ≤ i → i < 3 → s 84 (3 * t + i) = s (23 + 4 * t) i) ∧ ∀ k : Nat, ((k : Nat) : Int) < s (23 + 4 * t) 2 → stp (s 82 (170 * t + (k : Nat))) (s 83 (170 * t + (k : Nat))) (s (22 + 4 * t) (k : Nat))
def vX (s : Pl) : Prop := vX0 s ∧ ∀ t : Nat, 1 ≤ t → (t : Int) < s 0 4 → vX1 s t
def mX (c : Nat) (i : Int) : Prop := 22 ≤ c ∧ c ≤ 43 ∧ (c % 4 = 2 ∨ c % 4 = 3) ∨ 82 ≤ c ∧ c ≤ 84 ∨ c = 0 ∧ i = 4
theorem gd0 {s : Pl} (h : vX0 s) : gd (s 22) (s 23) := by
  obtain ⟨⟨h0, h1, h2, h3, h4, h5, h6, h7, h8⟩, g0, g1, g2⟩ := h
  refine ⟨1, 2, 9, by decide, ⟨g0, g1, g2⟩, ?_, ?_, ?_, ?_⟩
  · intro k hk
    have : k = 0 ∨ k = 1 ∨ k = 2 ∨ k = 3 ∨ k = 4 ∨ k = 5 ∨ k = 6 ∨ k = 7 ∨ k = 8 := by omega
    unfold okc isB
    rcases this with rfl | rfl | rfl | rfl | rfl | rfl | rfl | rfl | rfl <;> simp_all
  · simp [dp, h0]
  · simp [dp, h1]
  · simp [dp, h2, h3, h4, h5, h6, h7, h8]
variable {xs : Nat → Int} {L : Nat} {d : Nat} {s : Pl}
theorem n13 {t0 : Nat} (ht0 : t0 < 6) (hd : 3 ≤ d) {v1 : Int} (hv : 0 ≤ v1 ∧ v1 < 3) (hg : gd (s (22 + 4 * t0)) (s (23 + 4 * t0))) :
    Ev xs L T0 106 d 13 [rf (21 + 4 * t0 + 1), it v1, rf 59] s (qi fun r s1 => r = lawV (s (22 + 4 * t0)) (s (23 + 4 * t0)) (s 58) v1 ∧ ∀ c k, c ≠ 24 + 4 * t0 → s1 c k = s c k) := by
  obtain ⟨e0, e1, e2, ⟨he1, he2, he3⟩, ⟨g0, g1, g2⟩, hok, d0, d1, d2⟩ := hg
  have c : v1 = 0 ∨ v1 = 1 ∨ v1 = 2 := by omega
  rcases c with rfl | rfl | rfl
  · have h := m13 (xs := xs) (L := L) (s := s) ht0 hd hv (b := 0) (e := e0) (by simp) g0 (by omega) (fun k hk => hok k (by omega)) (by simpa using d0)
    refine h.i fun r s1 h1 => ⟨?_, h1.2⟩
    rw [h1.1]; simp [lawV, g0]
  · have h := m13 (xs := xs) (L := L) (s := s) ht0 hd hv (b := e0) (e := e1) (by simpa using g0) g1 (by omega) (fun k hk => hok k (by omega)) d1
    refine h.i fun r s1 h1 => ⟨?_, h1.2⟩
    rw [h1.1]; simp [lawV, g0, g1]
  · have h := m13 (xs := xs) (L := L) (s := s) ht0 hd hv (b := e1) (e := e2) (by simpa using g1) g2 (by omega) (fun k hk => hok k (by omega)) d2
    refine h.i fun r s1 h1 => ⟨?_, h1.2⟩
    rw [h1.1]; simp [lawV, g1, g2]
