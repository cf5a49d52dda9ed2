theorem cX {s s1 : Pl} (h4 : s 0 4 ≤ 6) (h : ∀ c i, mX c i → s1 c i = s c i) (v : vX s) : vX s1 := by
  have e : ∀ t : Nat, t < 6 → s1 (22 + 4 * t) = s (22 + 4 * t) ∧ s1 (23 + 4 * t) = s (23 + 4 * t) := fun t ht =>
    ⟨funext fun i => h _ i (by unfold mX; omega), funext fun i => h _ i (by unfold mX; omega)⟩
  refine ⟨?_, fun t h1 h2 => ?_⟩
  · have h0 := e 0 (by decide)
    have a : s1 22 = s 22 := h0.1
    have b : s1 23 = s 23 := h0.2
    unfold vX0
    rw [a, b]
    exact v.1
  · rw [h 0 4 (by simp [mX])] at h2
    obtain ⟨a, b⟩ := e t (by omega)
    have w := v.2 t h1 h2
    unfold vX1 at *
    rw [a, b]
    refine ⟨w.1, fun i i0 i3 => ?_, fun k hk => ?_⟩
    · rw [h 82 _ (by simp [mX])]
      exact w.2.1 i i0 i3
    · rw [h 80 _ (by simp [mX]), h 81 _ (by simp [mX])]
      exact w.2.2 k hk
