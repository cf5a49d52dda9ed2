variable {xs : Nat → Int} {L : Nat} {d : Nat} {s : Pl}
theorem held_mm (w a b : Int) (hab : a ≤ b) : (if a < (if w < b then w else b) then (if w < b then w else b) else a) = held9 w a b := by
  unfold held9
  split <;> split <;> (try split) <;> omega
theorem i38 {t : Nat} (ht : t < 6) (hd : 4 ≤ d) {p hr : Int} {P : Int → Pl → Prop} (hn : s 1 1 ≤ 6) (hp : 0 ≤ p ∧ p < s 1 1) (hl : s 57 1 = ((21 + 4 * t + 1 : Nat) : Int)) (hg : gd (s (22 + 4 * t)) (s (23 + 4 * t))) (h : ∀ s2 : Pl, kL t s s2 → P (held9 (lawV (s (22 + 4 * t)) (s (23 + 4 * t)) (nm6 p 0 (s 4 p) (s 6 p) hr (s 5 p)) 2) 0 999) s2) : Ev xs L T0 106 d 38 [rf 58, it p, it hr] s (qi P) := by
  refine e38 (by omega) (f38_0 ?_)
  refine i2 (by omega) hn (fun _ => ⟨fun _ => ⟨by omega, by omega, by omega, ?_⟩, fun h0 => absurd (by decide) h0⟩) (fun h0 => absurd hp h0)
  refine i39 (by omega) fun s1 h1 h2 => ⟨t, ht, by rw [h2 57 1 (by decide)]; exact hl, ?_⟩
  refine qlaw ht (by omega) (by decide) hg h1 h2 fun s2 hk => i231 (by omega) (i230 (by omega) ?_)
  have h9 := h s2 hk
  rw [held_mm _ _ _ (by decide)]
  exact h9
theorem qgiv {t : Nat} (ht : t < 6) (hd : 2 ≤ d) {s s1 : Pl} {nm : Int → Int} {v1 : Int} {P : Int → Pl → Prop} (hv : 0 ≤ v1 ∧ v1 < 3) (h14 : s 72 14 = (t : Nat)) (hx : vX s) (ht4 : (t : Int) < s 0 4) (hr : -2147483648 ≤ nm 3 ∧ nm 3 < 2147483648) (h1 : ∀ i : Int, 0 ≤ i → i < 6 → s1 86 i = nm i) (h2 : ∀ c i, c ≠ 86 → s1 c i = s c i) (hcx : vX s1) (h : ∀ s2 : Pl, kG s s2 → P (lawV (s (22 + 4 * t)) (s (23 + 4 * t)) nm v1) s2) : Ev xs L T0 106 d 162 [rf 73, it v1] s1 (qi P) := by
  have ef : s1 (22 + 4 * t) = s (22 + 4 * t) := funext fun i => h2 _ i (by omega)
  have eg : s1 (23 + 4 * t) = s (23 + 4 * t) := funext fun i => h2 _ i (by omega)
  refine (n162 ht hd hv (by rw [h2 72 14 (by decide)]; exact h14) hcx (by rw [h2 0 4 (by decide)]; exact ht4) (by rw [h1 3 (by decide) (by decide)]; exact hr)).i fun r s2 hr => ?_
  rw [hr.1, ef, eg, lawV_cong h1]
  exact h s2 fun c i a b => by rw [hr.2 c i a, h2 c i b]
