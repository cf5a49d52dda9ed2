/-! counts and sets of people, by numbers -/
/-- how many of the first k pass -/
def cnt (f : Nat → Bool) : Nat → Nat
  | 0 => 0
  | k + 1 => cnt f k + if f k then 1 else 0
/-- the first k that pass, as bits -/
def btn (f : Nat → Bool) : Nat → Nat
  | 0 => 0
  | k + 1 => btn f k + if f k then 2 ^ k else 0
theorem cnt_le (f : Nat → Bool) (k : Nat) : cnt f k ≤ k := by
  induction k with
  | zero => simp [cnt]
  | succ k ih => simp only [cnt]; split <;> omega
theorem cnt_cong {f g : Nat → Bool} {k : Nat} (h : ∀ p, p < k → f p = g p) : cnt f k = cnt g k := by
  induction k with
  | zero => rfl
  | succ k ih => simp only [cnt]; rw [ih (fun p hp => h p (by omega)), h k (by omega)]
theorem btn_lt (f : Nat → Bool) (k : Nat) : btn f k < 2 ^ k := by
  induction k with
  | zero => simp [btn]
  | succ k ih => simp only [btn]; rw [Nat.pow_succ]; split <;> omega
theorem btn_cong {f g : Nat → Bool} {k : Nat} (h : ∀ p, p < k → f p = g p) : btn f k = btn g k := by
  induction k with
  | zero => rfl
  | succ k ih => simp only [btn]; rw [ih (fun p hp => h p (by omega)), h k (by omega)]
theorem btn_bit (f : Nat → Bool) (k p : Nat) : (btn f k).testBit p = (decide (p < k) && f p) := by
  induction k with
  | zero => simp [btn]
  | succ k ih =>
    simp only [btn]
    have hlt := btn_lt f k
    by_cases hf : f k = true
    · rw [if_pos hf, Nat.add_comm]
      rcases Nat.lt_trichotomy p k with h | h | h
      · rw [Nat.testBit_two_pow_add_gt h, ih]
        simp [h, Nat.lt_succ_of_lt h]
      · subst h
        rw [Nat.testBit_two_pow_add_eq, Nat.testBit_lt_two_pow hlt, hf]
        simp
      · rw [Nat.testBit_lt_two_pow (by
          have : 2 ^ (k + 1) ≤ 2 ^ p := Nat.pow_le_pow_right (by decide) h
          rw [Nat.pow_succ] at this
          omega)]
        have : ¬ p < k + 1 := by omega
        simp [this]
    · rw [if_neg hf, Nat.add_zero, ih]
      rcases Nat.lt_trichotomy p k with h | h | h
      · simp [h, Nat.lt_succ_of_lt h]
      · subst h; simp [hf]
      · have h1 : ¬ p < k := by omega
        have h2 : ¬ p < k + 1 := by omega
        simp [h1, h2]
theorem btn_lt64 (f : Nat → Bool) {k : Nat} (h : k ≤ 6) : btn f k < 64 := Nat.lt_of_lt_of_le (btn_lt f k) (by
  have : 2 ^ k ≤ 2 ^ 6 := Nat.pow_le_pow_right (by decide) h
  omega)
theorem zor_bitL : ∀ k, k < 6 → ∀ a, a < 2 ^ k → zor (a : Nat) (zshl 1 (k : Nat)) = ((a + 2 ^ k : Nat) : Int) := by decide +kernel
theorem zshl_bit : ∀ k, k < 31 → zshl 1 (k : Nat) = ((2 ^ k : Nat) : Int) := by decide +kernel
theorem zshr_bit : ∀ k, k < 6 → ∀ a, a < 64 → zand (zshr (a : Nat) (k : Nat)) 1 = if a.testBit k then 1 else 0 := by decide +kernel
theorem zand_nn : ∀ a, a < 64 → ∀ c, c < 64 → zand (a : Nat) (c : Nat) = ((a &&& c : Nat) : Int) := by decide +kernel
theorem zor_nn : ∀ a, a < 64 → ∀ c, c < 64 → zor (a : Nat) (c : Nat) = ((a ||| c : Nat) : Int) := by decide +kernel
def clr (a k : Nat) : Nat := if a.testBit k then a - 2 ^ k else a
theorem zclr : ∀ k, k < 6 → ∀ a, a < 64 → zand (a : Nat) (zxor (zshl 1 (k : Nat)) (-1)) = ((clr a k : Nat) : Int) := by decide +kernel
theorem clr_bitL : ∀ k, k < 6 → ∀ a, a < 64 → clr a k < 64 ∧ ∀ p, p < 6 → (clr a k).testBit p = (a.testBit p && decide (p ≠ k)) := by decide +kernel
/-- how many bits of six -/
def pop6 (a : Nat) : Nat := cnt (fun p => a.testBit p) 6
theorem pop_btn (f : Nat → Bool) {k : Nat} (h : k ≤ 6) : pop6 (btn f k) = cnt f k := by
  have h1 : ∀ j, k ≤ j → cnt (fun p => (btn f k).testBit p) j = cnt f k := by
    intro j hj
    induction hj with
    | refl => exact cnt_cong (fun p hp => by rw [btn_bit]; simp [hp])
    | step hj ih =>
      rename_i m9
      have hj2 : k ≤ m9 := hj
      have e : (btn f k).testBit m9 = false := by
        rw [btn_bit]
        have : ¬ m9 < k := by omega
        simp [this]
      simp only [cnt]
      rw [ih]
      simp [e]
  exact h1 6 h
theorem bit6_ext {a c : Nat} (ha : a < 64) (hc : c < 64) (h : ∀ p, p < 6 → a.testBit p = c.testBit p) : a = c := by
  apply Nat.eq_of_testBit_eq
  intro p
  by_cases hp : p < 6
  · exact h p hp
  · have h6 : 2 ^ 6 ≤ 2 ^ p := Nat.pow_le_pow_right (by decide) (by omega)
    rw [Nat.testBit_lt_two_pow (by omega), Nat.testBit_lt_two_pow (by omega)]
variable {xs : Nat → Int} {L : Nat} {d : Nat} {s : Pl}
/-- whoIsAt -/
theorem l6 {l : Int} (n : Nat) (hn : s 1 1 = n) (hn6 : n ≤ 6) : ∀ (j k : Nat) (a b : Int), k + j = n → a = (btn (fun p => decide (s 2 p = l)) k : Nat) → b = (k : Nat) → Fr xs L T0 106 d 6 4 [some (rf 2), some (it l), some (it a), some (it b)] [] s (qi fun r s1 => s1 = s ∧ r = (btn (fun p => decide (s 2 p = l)) n : Nat)) := by
  intro j
  induction j with
  | zero =>
    intro k a b hk ha hb
    refine f6_4 ⟨fun _ => ⟨rfl, by rw [ha]; congr 2⟩, fun h => absurd h (by omega)⟩
  | succ j ih =>
    intro k a b hk ha hb
    have hz : zw (b + 1) = (k + 1 : Nat) := by rw [zw_id (by omega) (by omega)]; omega
    refine f6_4 ⟨fun h => absurd h (by omega), fun _ => ⟨fun h => absurd h (by omega), fun _ => ⟨⟨by omega, by omega⟩, fun hne => f6_34 (ih (k + 1) _ _ (by omega) ?_ hz), fun he => f6_34 (ih (k + 1) _ _ (by omega) ?_ hz)⟩⟩⟩
    · rw [ha]
      simp only [btn]
      rw [if_neg (by simp; rw [← hb]; exact hne), Nat.add_zero]
    · have hlt := btn_lt (fun p => decide (s 2 p = l)) k
      rw [ha, hb, zor_bitL k (by omega) _ hlt]
      simp only [btn]
      rw [if_pos (by simp; rw [← hb]; exact Classical.not_not.mp he)]
theorem m6 {l : Int} (n : Nat) (hn : s 1 1 = n) (hn6 : n ≤ 6) (hd : 1 ≤ d) : Ev xs L T0 106 d 6 [rf 2, it l] s (qi fun r s1 => s1 = s ∧ r = (btn (fun p => decide (s 2 p = l)) n : Nat)) :=
  e6 hd (f6_0 (l6 n hn hn6 n 0 _ _ (by omega) rfl rfl))
