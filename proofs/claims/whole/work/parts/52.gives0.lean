variable {xs : Nat → Int} {L : Nat} {d : Nat} {s : Pl}
theorem law0 {s : Pl} (h : vX0 s) (nm : Int → Int) : lawV (s 22) (s 23) nm 0 = 1 ∧ lawV (s 22) (s 23) nm 1 = nm 3 ∧ lawV (s 22) (s 23) nm 2 = zw (nm 3 * (if nm 4 < zw (nm 5 + 1) then 1 else 0)) := by
  obtain ⟨⟨h0, h1, h2, h3, h4, h5, h6, h7, h8⟩, g0, g1, g2⟩ := h
  refine ⟨?_, ?_, ?_⟩
  · simp [lawV, g0, exs, sx, h0]
  · simp [lawV, g0, g1, exs, sx, h1]
  · simp [lawV, g1, g2, exs, sx, h2, h3, h4, h5, h6, h7, h8, op2]
theorem n162 {t : Nat} (ht : t < 6) (hd : 2 ≤ d) {v1 : Int} (hv : 0 ≤ v1 ∧ v1 < 3) (h14 : s 72 14 = (t : Nat)) (hx : vX s) (ht4 : (t : Int) < s 0 4) (hr : -2147483648 ≤ s 86 3 ∧ s 86 3 < 2147483648) :
    Ev xs L T0 106 d 162 [rf 73, it v1] s (qi fun r s1 => r = lawV (s (22 + 4 * t)) (s (23 + 4 * t)) (s 86) v1 ∧ ∀ c k, c ≠ 85 → s1 c k = s c k) := by
  by_cases h0 : t = 0
  · subst h0
    obtain ⟨l0, l1, l2⟩ := law0 hx.1 (s 86)
    refine e162 (by omega) (f162_0 ⟨fun h => absurd h14 h, fun _ => ⟨fun h1 => ⟨fun h2 => ⟨by decide, by decide, fun h3 => ⟨?_, fun _ _ _ => rfl⟩, fun h3 => ⟨by decide, ?_, fun _ _ _ => rfl⟩⟩, fun h2 => ⟨by decide, ?_, fun _ _ _ => rfl⟩⟩, fun h1 => ⟨?_, fun _ _ _ => rfl⟩⟩⟩)
    · have : v1 = 2 := by omega
      subst this
      show 0 = lawV (s 22) (s 23) (s 86) 2
      rw [l2, if_neg (by omega)]
      simp
      decide
    · have : v1 = 2 := by omega
      subst this
      show s 86 3 = lawV (s 22) (s 23) (s 86) 2
      rw [l2, if_pos (by omega), Int.mul_one, zw_id hr.1 hr.2]
    · have : v1 = 1 := by omega
      subst this
      exact l1.symm
    · have : v1 = 0 := by omega
      subst this
      exact l0.symm
  · exact m162 ⟨by omega, ht⟩ hd hv h14 (hx.2 t (by omega) ht4)
