variable {xs : Nat → Int} {L : Nat} {d : Nat} {s : Pl}
theorem i126 {v : Int} {P : Int → Pl → Prop} (hd : 1 ≤ d) (h : 0 ≤ v ∧ v < 4 → P 1 s) (h0 : ¬ (0 ≤ v ∧ v < 4) → P 0 s) : Ev xs L T0 106 d 126 [it v] s (qi P) :=
  (m126 hd).i fun _ _ ⟨h1, h2⟩ => by rw [h1, h2]; split <;> grind
theorem i134 {v : Int} {P : Int → Pl → Prop} (hd : 2 ≤ d) (h : 0 ≤ v ∧ v < 4 → P 1 s) (h0 : ¬ (0 ≤ v ∧ v < 4) → P 0 s) : Ev xs L T0 106 d 134 [it v] s (qi P) :=
  (m134 hd).i fun _ _ ⟨h1, h2⟩ => by rw [h1, h2]; split <;> grind
theorem i132 {v a b : Int} {P : Int → Pl → Prop} (hd : 1 ≤ d) (h : a ≤ v ∧ v ≤ b → P 1 s) (h0 : ¬ (a ≤ v ∧ v ≤ b) → P 0 s) : Ev xs L T0 106 d 132 [it v, it a, it b] s (qi P) :=
  (m132 hd).i fun _ _ ⟨h1, h2⟩ => by rw [h1, h2]; split <;> grind
theorem m4 {u v h : Int} (hd : 2 ≤ d) (hu : 0 ≤ u ∧ u < 4) (hv : 0 ≤ v ∧ v < 4) : Ev xs L T0 106 d 4 [rf 2, it u, it v, it h] s (qi fun r s1 => r = s 9 (4 * u + v) ∧ s1 = zup (zup s 9 (4 * u + v) h) 9 (4 * v + u) h) := by
  refine e4 (by omega) (f4_0 ?_)
  have e1 : zw (zw (4 * u) + v) = 4 * u + v := by rw [zw_id (x := 4 * u) (by omega) (by omega), zw_id (by omega) (by omega)]
  have e2 : zw (zw (4 * v) + u) = 4 * v + u := by rw [zw_id (x := 4 * v) (by omega) (by omega), zw_id (by omega) (by omega)]
  rw [e1, e2]
  grind [i126]
theorem i4 {u v h : Int} {P : Int → Pl → Prop} (hd : 2 ≤ d) (hu : 0 ≤ u ∧ u < 4) (hv : 0 ≤ v ∧ v < 4) (hp : P (s 9 (4 * u + v)) (zup (zup s 9 (4 * u + v) h) 9 (4 * v + u) h)) : Ev xs L T0 106 d 4 [rf 2, it u, it v, it h] s (qi P) :=
  (m4 hd hu hv).i fun _ _ ⟨h1, h2⟩ => by rw [h1, h2]; exact hp
theorem m83 {u v h : Int} (hd : 3 ≤ d) : Ev xs L T0 106 d 83 [rf 1, it u, it v, it h] s (qi fun r s1 => if 0 ≤ u ∧ u < 4 ∧ 0 ≤ v ∧ v < 4 ∧ u ≠ v then (if 1 ≤ h ∧ h ≤ 9 then r = s 9 (4 * u + v) ∧ s1 = zup (zup (zup s 0 9 0) 9 (4 * u + v) h) 9 (4 * v + u) h else r = -2 ∧ s1 = s) else r = -1 ∧ s1 = s) := by
  refine e83 (by omega) (f83_0 ?_)
  have e : zup s 0 9 0 9 (4 * u + v) = s 9 (4 * u + v) := by simp [zup]
  grind [i126, i4]
theorem m136 {u v h : Int} (hd : 3 ≤ d) : Ev xs L T0 106 d 136 [rf 73, it u, it v, it h] s (qi fun r s1 => if 0 ≤ u ∧ u < 4 ∧ 0 ≤ v ∧ v < 4 ∧ u ≠ v then (if 1 ≤ h ∧ h ≤ 9 then r = s 73 (4 * u + v) ∧ s1 = zup (zup s 73 (4 * u + v) h) 73 (4 * v + u) h else r = -2 ∧ s1 = s) else r = -1 ∧ s1 = s) := by
  refine e136 (by omega) (f136_0 ?_)
  by_cases hu : 0 ≤ u ∧ u < 4
  · by_cases hv : 0 ≤ v ∧ v < 4
    · have e1 : zw (zw (4 * u) + v) = 4 * u + v := by rw [zw_id (x := 4 * u) (by omega) (by omega), zw_id (by omega) (by omega)]
      have e2 : zw (zw (4 * v) + u) = 4 * v + u := by rw [zw_id (x := 4 * v) (by omega) (by omega), zw_id (by omega) (by omega)]
      rw [e1, e2]
      grind [i134, i132]
    · grind [i134]
  · grind [i134]
