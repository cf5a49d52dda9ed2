variable {xs : Nat → Int} {L : Nat} {d : Nat} {s : Pl}
theorem mul170 : ∀ t : Nat, t < 6 → zw (170 * ((t : Nat) : Int)) = 170 * ((t : Nat) : Int) ∧ 0 ≤ 170 * ((t : Nat) : Int) ∧ 170 * ((t : Nat) : Int) ≤ 850 := by decide
theorem m162 {t : Nat} (ht : 1 ≤ t ∧ t < 6) (hd : 2 ≤ d) {v1 : Int} (hv : 0 ≤ v1 ∧ v1 < 3) (h14 : s 72 14 = (t : Nat)) (hx : vX1 s t) :
    Ev xs L T0 106 d 162 [rf 73, it v1] s (qi fun r s1 => r = lawV (s (22 + 4 * t)) (s (23 + 4 * t)) (s 86) v1 ∧ ∀ c k, c ≠ 85 → s1 c k = s c k) := by
  obtain ⟨⟨e0, e1, e2, ⟨he1, he2, he3⟩, ⟨g0, g1, g2⟩, hok, d0, d1, d2⟩, h82, hstp⟩ := hx
  obtain ⟨zt, t0, t1⟩ := mul170 t ht.2
  have hstp2 : ∀ e : Nat, e ≤ e2 → ∀ k : Nat, k < e → stp (s 82 (170 * ((t : Nat) : Int) + (k : Nat))) (s 83 (170 * ((t : Nat) : Int) + (k : Nat))) (s (22 + 4 * t) (k : Nat)) := fun e he k hk => hstp k (by rw [g2]; omega)
  have z0 : zw (170 * s 72 14) = 170 * ((t : Nat) : Int) := by rw [h14, zt]
  clear hstp zt
  generalize 170 * ((t : Nat) : Int) = tb at t0 t1 hstp2 z0
  have z1 : ∀ v : Int, 0 ≤ v → v < 3 → zw (zw (3 * s 72 14) + v) = 3 * t + v := fun v h1 h2 => by rw [h14, zw_id (x := 3 * (t : Int)) (by omega) (by omega), zw_id (by omega) (by omega)]
  refine e162 (by omega) (f162_0 ⟨fun _ => ⟨fun h1 => ?_, fun h1 => ?_⟩, fun h => absurd (by omega) h⟩)
  · have z2 : zw (zw (zw (3 * s 72 14) + v1) - 1) = 3 * t + (v1 - 1) := by rw [z1 v1 hv.1 hv.2, zw_id (by omega) (by omega)]; omega
    rw [z2]
    refine ⟨by omega, f162_82 ?_⟩
    rw [h82 (v1 - 1) (by omega) (by omega), z0]
    have c : v1 = 1 ∨ v1 = 2 := by omega
    rcases c with rfl | rfl
    · have hl : lawV (s (22 + 4 * t)) (s (23 + 4 * t)) (s 86) 1 = (exs (s 86) (s (22 + 4 * t)) e0 (e1 - e0) []).headD 0 := by simp [lawV, g0, g1]
      rw [hl]
      exact l162 (e := e1) ⟨t0, t1⟩ (te := 3 * t + 1) (by omega) (by omega) (by omega) s (z1 1 (by omega) (by omega)) z0 (by rw [h82 1 (by omega) (by omega), g1]) (hstp2 e1 (by omega)) (e1 - e0) e0 [] s _ _ _ (by omega) d1 (by simp) trivial (fun _ _ _ => rfl) rfl (by rw [show (1 : Int) - 1 = 0 from rfl, g0]; exact zw_id (by omega) (by omega))
    · have hl : lawV (s (22 + 4 * t)) (s (23 + 4 * t)) (s 86) 2 = (exs (s 86) (s (22 + 4 * t)) e1 (e2 - e1) []).headD 0 := by simp [lawV, g1, g2]
      rw [hl]
      exact l162 (e := e2) ⟨t0, t1⟩ (te := 3 * t + 2) (by omega) (by omega) (by omega) s (z1 2 (by omega) (by omega)) z0 (by rw [h82 2 (by omega) (by omega), g2]) (hstp2 e2 (by omega)) (e2 - e1) e1 [] s _ _ _ (by omega) d2 (by simp) trivial (fun _ _ _ => rfl) rfl (by rw [show (2 : Int) - 1 = 1 from rfl, g1]; exact zw_id (by omega) (by omega))
  · have hv0 : v1 = 0 := Classical.not_not.mp h1
    subst hv0
    refine f162_82 ?_
    rw [z0]
    have hl : lawV (s (22 + 4 * t)) (s (23 + 4 * t)) (s 86) 0 = (exs (s 86) (s (22 + 4 * t)) 0 e0 []).headD 0 := by simp [lawV, g0]
    rw [hl]
    exact l162 (e := e0) ⟨t0, t1⟩ (te := 3 * t + 0) (by omega) (by omega) (by omega) s (z1 0 (by omega) (by omega)) z0 (by rw [h82 0 (by omega) (by omega), g0]) (hstp2 e0 (by omega)) e0 0 [] s _ _ _ (by omega) d0 (by simp) trivial (fun _ _ _ => rfl) rfl (by rw [zw_id (by omega) (by omega)]; simp)
