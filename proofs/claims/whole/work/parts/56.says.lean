theorem cX {s s1 : Pl} (h4 : s 0 4 ≤ 6) (h : ∀ c i, mX c i → s1 c i = s c i) (v : vX s) : vX s1 := by
  have e : ∀ t : Nat, t < 6 → s1 (22 + 4 * t) = s (22 + 4 * t) ∧ s1 (23 + 4 * t) = s (23 + 4 * t) := fun t ht =>
    ⟨funext fun i => h _ i (by unfold mX; omega), funext fun i => h _ i (by unfold mX; omega)⟩
  refine ⟨?_, fun t h1 h2 => ?_⟩
  · have h0 := e 0 (by decide)
    have a : s1 22 = s 22 := h0.1
    have b : s1 23 = s 23 := h0.2
    unfold vX0
    rw [a, b]
    exact v.1
  · rw [h 0 4 (by simp [mX])] at h2
    obtain ⟨a, b⟩ := e t (by omega)
    have w := v.2 t h1 h2
    unfold vX1 at *
    rw [a, b]
    refine ⟨w.1, fun i i0 i3 => ?_, fun k hk => ?_⟩
    · rw [h 84 _ (by simp [mX])]
      exact w.2.1 i i0 i3
    · rw [h 82 _ (by simp [mX]), h 83 _ (by simp [mX])]
      exact w.2.2 k hk
variable {xs : Nat → Int} {L : Nat} {d : Nat} {s : Pl}
theorem qfac {s s1 : Pl} {nm : Int → Int} (h0 : ∀ c i, c ≠ 86 → s1 c i = s c i) (h4 : s 0 4 ≤ 6) (hx : vX s) : vX s1 := cX h4 (fun c i hm => h0 c i (by unfold mX at hm; omega)) hx
theorem i164 {t : Nat} (ht : t < 6) (hd : 3 ≤ d) {p q l : Int} {P : Int → Pl → Prop} (h14 : s 72 14 = (t : Nat)) (hx : vX s) (ht4 : (t : Int) < s 0 4) (h4 : s 0 4 ≤ 6) (h : ∀ s2 : Pl, kG s s2 → P (if lawV (s (22 + 4 * t)) (s (23 + 4 * t)) (nm6 p q l 0 0 0) 0 = 0 then 0 else 1) s2) : Ev xs L T0 106 d 164 [rf 73, it p, it q, it l] s (qi P) := by
  refine e164 (by omega) (f164_0 (i163 (by omega) fun s1 h1 h2 => ⟨by decide, by decide, by decide, ?_⟩))
  have k2 : ∀ c i, c ≠ 86 → (zup (zup (zup s1 86 0 p) 86 1 q) 86 2 l) c i = s c i := by
    intro c i hc
    rw [zg, if_neg (by simp [hc]), zg, if_neg (by simp [hc]), zg, if_neg (by simp [hc]), h2 c i hc]
  refine qgiv ht (by omega) (nm := nm6 p q l 0 0 0) (by decide) h14 hx ht4 (by simp [nm6]) ?_ k2 (qfac (nm := s 86) k2 h4 hx) fun s2 hk => ?_
  · intro i i0 i6
    have : i = 0 ∨ i = 1 ∨ i = 2 ∨ i = 3 ∨ i = 4 ∨ i = 5 := by omega
    rcases this with rfl | rfl | rfl | rfl | rfl | rfl <;> simp [zg, nm6, h1]
  · have h9 := h s2 hk
    refine ⟨fun h0 => ?_, fun h0 => ?_⟩
    · rw [if_pos h0] at h9; exact h9
    · rw [if_neg h0] at h9; exact h9
