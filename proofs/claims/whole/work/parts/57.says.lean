variable {xs : Nat → Int} {L : Nat} {d : Nat} {s : Pl}
theorem i133 {v a b : Int} {P : Int → Pl → Prop} (hd : 1 ≤ d) (h : P (held9 v a b) s) : Ev xs L T0 106 d 133 [it v, it a, it b] s (qi P) :=
  (m133 hd).i fun _ _ ⟨h1, h2⟩ => by rw [h1, h2]; exact h
theorem i165 {t : Nat} (ht : t < 6) (hd : 3 ≤ d) {u v : Int} {P : Int → Pl → Prop} (hu : 0 ≤ u ∧ u < 4) (hv : 0 ≤ v ∧ v < 4) (h14 : s 72 14 = (t : Nat)) (hx : vX s) (ht4 : (t : Int) < s 0 4) (h4 : s 0 4 ≤ 6) (hb : -2147483648 ≤ s 73 (4 * u + v) ∧ s 73 (4 * u + v) < 2147483648) (h : ∀ s2 : Pl, kG s s2 → P (held9 (lawV (s (22 + 4 * t)) (s (23 + 4 * t)) (nm6 u v 0 (s 73 (4 * u + v)) 0 0) 1) 1 99) s2) : Ev xs L T0 106 d 165 [rf 73, it u, it v] s (qi P) := by
  have z : zw (zw (4 * u) + v) = 4 * u + v := by rw [zw_id (x := 4 * u) (by omega) (by omega), zw_id (by omega) (by omega)]
  refine e165 (by omega) (f165_0 (i163 (by omega) fun s1 h1 h2 => ?_))
  rw [z]
  refine ⟨by decide, by decide, by omega, by decide, ?_⟩
  have e71 : (zup (zup s1 86 0 u) 86 1 v) 73 (4 * u + v) = s 73 (4 * u + v) := by rw [zg, if_neg (by simp), zg, if_neg (by simp), h2 73 _ (by decide)]
  rw [e71]
  generalize s 73 (4 * u + v) = B at hb h ⊢
  have k2 : ∀ c i, c ≠ 86 → (zup (zup (zup s1 86 0 u) 86 1 v) 86 3 B) c i = s c i := by
    intro c i hc
    rw [zg, if_neg (by simp [hc]), zg, if_neg (by simp [hc]), zg, if_neg (by simp [hc]), h2 c i hc]
  refine qgiv ht (by omega) (nm := nm6 u v 0 B 0 0) (by decide) h14 hx ht4 (by simpa [nm6] using hb) ?_ k2 (qfac (nm := s 86) k2 h4 hx) fun s2 hk => i133 (by omega) (h s2 hk)
  intro i i0 i6
  have : i = 0 ∨ i = 1 ∨ i = 2 ∨ i = 3 ∨ i = 4 ∨ i = 5 := by omega
  rcases this with rfl | rfl | rfl | rfl | rfl | rfl <;> simp [zg, nm6, h1]
theorem i166 {t : Nat} (ht : t < 6) (hd : 3 ≤ d) {p hr : Int} {P : Int → Pl → Prop} (hp : 0 ≤ p ∧ p < 6) (h14 : s 72 14 = (t : Nat)) (hx : vX s) (ht4 : (t : Int) < s 0 4) (h4 : s 0 4 ≤ 6) (hb : -2147483648 ≤ s 78 p ∧ s 78 p < 2147483648) (h : ∀ s2 : Pl, kG s s2 → P (held9 (lawV (s (22 + 4 * t)) (s (23 + 4 * t)) (nm6 p 0 (s 76 p) (s 78 p) hr (s 77 p)) 2) 0 999) s2) : Ev xs L T0 106 d 166 [rf 73, it p, it hr] s (qi P) := by
  refine e166 (by omega) (f166_0 (i163 (by omega) fun s1 h1 h2 => ⟨by decide, by omega, by decide, by omega, by decide, by decide, by omega, by decide, ?_⟩))
  have o : ∀ (sx9 : Pl) (i w : Int) (c : Nat) (k : Int), c ≠ 86 → zup sx9 86 i w c k = sx9 c k := fun sx9 i w c k hc => by rw [zg, if_neg (by simp [hc])]
  rw [o _ _ _ 76 p (by decide), o _ _ _ 78 p (by decide), o _ _ _ 78 p (by decide), o _ _ _ 77 p (by decide), o _ _ _ 77 p (by decide), o _ _ _ 77 p (by decide), o _ _ _ 77 p (by decide), h2 76 _ (by decide), h2 77 _ (by decide), h2 78 _ (by decide)]
  generalize s 78 p = B at hb h ⊢
  generalize s 77 p = B5 at h ⊢
  generalize s 76 p = B4 at h ⊢
  have k2 : ∀ c i, c ≠ 86 → (zup (zup (zup (zup (zup s1 86 0 p) 86 2 B4) 86 3 B) 86 4 hr) 86 5 B5) c i = s c i := by
    intro c i hc
    rw [o _ _ _ c i hc, o _ _ _ c i hc, o _ _ _ c i hc, o _ _ _ c i hc, o _ _ _ c i hc, h2 c i hc]
  refine qgiv ht (by omega) (nm := nm6 p 0 B4 B hr B5) (by decide) h14 hx ht4 (by simpa [nm6] using hb) ?_ k2 (qfac (nm := s 86) k2 h4 hx) fun s2 hk => i133 (by omega) (h s2 hk)
  intro i i0 i6
  have : i = 0 ∨ i = 1 ∨ i = 2 ∨ i = 3 ∨ i = 4 ∨ i = 5 := by omega
  rcases this with rfl | rfl | rfl | rfl | rfl | rfl <;> simp [zg, nm6, h1]
