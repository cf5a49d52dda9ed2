variable {xs : Nat → Int} {L : Nat} {d : Nat} {s : Pl}
/-- after a question only the names and the law's pile are other -/
def kL (t : Nat) (s s1 : Pl) : Prop := ∀ c i, c ≠ 58 → c ≠ 24 + 4 * t → s1 c i = s c i
def kG (s s1 : Pl) : Prop := ∀ c i, c ≠ 85 → c ≠ 86 → s1 c i = s c i
theorem qlaw {t : Nat} (ht : t < 6) (hd : 3 ≤ d) {s s1 : Pl} {nm : Int → Int} {v1 : Int} {P : Int → Pl → Prop} (hv : 0 ≤ v1 ∧ v1 < 3) (hg : gd (s (22 + 4 * t)) (s (23 + 4 * t))) (h1 : ∀ i : Int, 0 ≤ i → i < 6 → s1 58 i = nm i) (h2 : ∀ c i, c ≠ 58 → s1 c i = s c i) (h : ∀ s2 : Pl, kL t s s2 → P (lawV (s (22 + 4 * t)) (s (23 + 4 * t)) nm v1) s2) : Ev xs L T0 106 d 13 [rf (21 + 4 * t + 1), it v1, rf 59] s1 (qi P) := by
  have ef : s1 (22 + 4 * t) = s (22 + 4 * t) := funext fun i => h2 _ i (by omega)
  have eg : s1 (23 + 4 * t) = s (23 + 4 * t) := funext fun i => h2 _ i (by omega)
  have hg1 : gd (s1 (22 + 4 * t)) (s1 (23 + 4 * t)) := by rw [ef, eg]; exact hg
  refine (n13 ht hd hv hg1).i fun r s2 hr => ?_
  rw [hr.1, ef, eg, lawV_cong h1]
  exact h s2 fun c i a b => by rw [hr.2 c i b, h2 c i a]
theorem i36 {t : Nat} (ht : t < 6) (hd : 4 ≤ d) {p q l : Int} {P : Int → Pl → Prop} (hl : s 57 1 = ((21 + 4 * t + 1 : Nat) : Int)) (hg : gd (s (22 + 4 * t)) (s (23 + 4 * t))) (h : ∀ s2 : Pl, kL t s s2 → P (if lawV (s (22 + 4 * t)) (s (23 + 4 * t)) (nm6 p q l 0 0 0) 0 = 0 then 0 else 1) s2) : Ev xs L T0 106 d 36 [rf 58, it p, it q, it l] s (qi P) := by
  refine e36 (by omega) (f36_0 (i39 (by omega) fun s1 h1 h2 => ⟨t, ht, by rw [h2 57 1 (by decide)]; exact hl, ?_⟩))
  refine qlaw ht (by omega) (by decide) hg h1 h2 fun s2 hk => ⟨fun h0 => ?_, fun h0 => ?_⟩
  · have := h s2 hk
    rw [if_pos h0] at this
    exact this
  · have := h s2 hk
    rw [if_neg h0] at this
    exact this
theorem i37 {t : Nat} (ht : t < 6) (hd : 4 ≤ d) {u v : Int} {P : Int → Pl → Prop} (hu : 0 ≤ u ∧ u < 4) (hv : 0 ≤ v ∧ v < 4) (hl : s 57 1 = ((21 + 4 * t + 1 : Nat) : Int)) (hg : gd (s (22 + 4 * t)) (s (23 + 4 * t))) (h : ∀ s2 : Pl, kL t s s2 → P (held9 (lawV (s (22 + 4 * t)) (s (23 + 4 * t)) (nm6 u v 0 (s 9 (4 * u + v)) 0 0) 1) 1 99) s2) : Ev xs L T0 106 d 37 [rf 58, it u, it v] s (qi P) := by
  have z : zw (zw (4 * u) + v) = 4 * u + v := by rw [zw_id (x := 4 * u) (by omega) (by omega), zw_id (by omega) (by omega)]
  refine e37 (by omega) (f37_0 ?_)
  rw [z]
  refine i126 (by omega) (fun _ => ⟨fun h0 => absurd h0 (by decide), fun _ => ?_⟩) (fun h0 => absurd hu h0)
  refine i126 (by omega) (fun _ => ⟨fun _ => ⟨by omega, ?_⟩, fun h0 => absurd (by decide) h0⟩) (fun h0 => absurd hv h0)
  refine i39 (by omega) fun s1 h1 h2 => ⟨t, ht, by rw [h2 57 1 (by decide)]; exact hl, ?_⟩
  refine qlaw ht (by omega) (by decide) hg h1 h2 fun s2 hk => i231 (by omega) (i230 (by omega) ?_)
  have h9 := h s2 hk
  generalize lawV (s (22 + 4 * t)) (s (23 + 4 * t)) (nm6 u v 0 (s 9 (4 * u + v)) 0 0) 1 = w at h9 ⊢
  have e : (if 1 < (if w < 99 then w else 99) then (if w < 99 then w else 99) else 1) = held9 w 1 99 := by
    unfold held9
    split <;> split <;> (try split) <;> omega
  rw [e]
  exact h9
