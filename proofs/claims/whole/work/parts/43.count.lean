/-! counts, kinds, the state's number -/
variable {xs : Nat → Int} {L : Nat} {d : Nat} {s : Pl}
theorem i2 {v : Int} {P : Int → Pl → Prop} (hd : 1 ≤ d) (hn : s 1 1 ≤ 6) (h : 0 ≤ v ∧ v < s 1 1 → P 1 s) (h0 : ¬ (0 ≤ v ∧ v < s 1 1) → P 0 s) : Ev xs L T0 106 d 2 [rf 2, it v] s (qi P) :=
  (m2 hd hn).i fun _ _ ⟨h1, h2⟩ => by rw [h1, h2]; split <;> grind
theorem i127 {v : Int} {P : Int → Pl → Prop} (hd : 1 ≤ d) (h : 0 ≤ v ∧ v ≤ 255 → P 1 s) (h0 : ¬ (0 ≤ v ∧ v ≤ 255) → P 0 s) : Ev xs L T0 106 d 127 [it v] s (qi P) :=
  (m127 hd).i fun _ _ ⟨h1, h2⟩ => by rw [h1, h2]; split <;> grind
theorem i128 {v : Int} {P : Int → Pl → Prop} (hd : 1 ≤ d) (h : 0 ≤ v ∧ v < 4 → P 1 s) (h0 : ¬ (0 ≤ v ∧ v < 4) → P 0 s) : Ev xs L T0 106 d 128 [it v] s (qi P) :=
  (m128 hd).i fun _ _ ⟨h1, h2⟩ => by rw [h1, h2]; split <;> grind
theorem i135 {v : Int} {P : Int → Pl → Prop} (hd : 2 ≤ d) (hn : 0 ≤ s 72 3 ∧ s 72 3 ≤ 6) (h : 0 ≤ v ∧ v < s 72 3 → P 1 s) (h0 : ¬ (0 ≤ v ∧ v < s 72 3) → P 0 s) : Ev xs L T0 106 d 135 [rf 73, it v] s (qi P) := by
  refine e135 (by omega) (f135_0 ?_)
  rw [zw_id (x := s 72 3 - 1) (by omega) (by omega)]
  refine i132 (by omega) (fun h1 => ⟨Or.inr rfl, h (by omega)⟩) (fun h1 => ⟨Or.inl rfl, h0 (by omega)⟩)
def bc0 (v0 : Int) : Int := (zand (zw ((zw ((zand (zw ((zw ((zand (zw (v0 - (zand (zushr v0 1) 1431655765))) 858993459) + (zand (zushr (zw (v0 - (zand (zushr v0 1) 1431655765))) 2) 858993459))) + (zushr (zw ((zand (zw (v0 - (zand (zushr v0 1) 1431655765))) 858993459) + (zand (zushr (zw (v0 - (zand (zushr v0 1) 1431655765))) 2) 858993459))) 4))) 252645135) + (zushr (zand (zw ((zw ((zand (zw (v0 - (zand (zushr v0 1) 1431655765))) 858993459) + (zand (zushr (zw (v0 - (zand (zushr v0 1) 1431655765))) 2) 858993459))) + (zushr (zw ((zand (zw (v0 - (zand (zushr v0 1) 1431655765))) 858993459) + (zand (zushr (zw (v0 - (zand (zushr v0 1) 1431655765))) 2) 858993459))) 4))) 252645135) 8))) + (zushr (zw ((zand (zw ((zw ((zand (zw (v0 - (zand (zushr v0 1) 1431655765))) 858993459) + (zand (zushr (zw (v0 - (zand (zushr v0 1) 1431655765))) 2) 858993459))) + (zushr (zw ((zand (zw (v0 - (zand (zushr v0 1) 1431655765))) 858993459) + (zand (zushr (zw (v0 - (zand (zushr v0 1) 1431655765))) 2) 858993459))) 4))) 252645135) + (zushr (zand (zw ((zw ((zand (zw (v0 - (zand (zushr v0 1) 1431655765))) 858993459) + (zand (zushr (zw (v0 - (zand (zushr v0 1) 1431655765))) 2) 858993459))) + (zushr (zw ((zand (zw (v0 - (zand (zushr v0 1) 1431655765))) 858993459) + (zand (zushr (zw (v0 - (zand (zushr v0 1) 1431655765))) 2) 858993459))) 4))) 252645135) 8))) 16))) 63)
theorem bc0_pop : ∀ a, a < 64 → bc0 (a : Nat) = (pop6 a : Nat) := by decide +kernel
theorem i228 {T : List (Nat × Int × Int)} {n a : Nat} {P : Int → Pl → Prop} (ha : a < 64) (hd : 1 ≤ d) (h : P (pop6 a : Nat) s) : Ev xs L T n d 228 [it (a : Nat)] s (qi P) := by
  refine e228 hd (f228_0 ?_)
  rw [← bc0_pop a ha] at h
  exact h
theorem l138 {l : Int} (n : Nat) (hn : s 72 3 = n) (hn6 : n ≤ 6) : ∀ (j k : Nat) (a b : Int), k + j = n → a = (cnt (fun p => decide (s 75 p = l)) k : Nat) → b = (k : Nat) → Fr xs L T0 106 d 138 4 [some (rf 73), some (it l), some (it a), some (it b)] [] s (qi fun r s1 => s1 = s ∧ r = (cnt (fun p => decide (s 75 p = l)) n : Nat)) := by
  intro j
  induction j with
  | zero =>
    intro k a b hk ha hb
    refine f138_4 ⟨fun _ => ⟨rfl, by rw [ha]; congr 2⟩, fun h => absurd h (by omega)⟩
  | succ j ih =>
    intro k a b hk ha hb
    have hz : zw (b + 1) = (k + 1 : Nat) := by rw [zw_id (by omega) (by omega)]; omega
    have hle := cnt_le (fun p => decide (s 75 p = l)) k
    refine f138_4 ⟨fun h => absurd h (by omega), fun _ => ⟨by omega, fun hne => f138_28 (ih (k + 1) _ _ (by omega) ?_ hz), fun he => f138_28 (ih (k + 1) _ _ (by omega) ?_ hz)⟩⟩
    · rw [zw_id (by omega) (by omega), ha]
      simp only [cnt]
      rw [if_neg (by simp; rw [← hb]; exact hne)]; omega
    · rw [zw_id (by omega) (by omega), ha]
      simp only [cnt]
      rw [if_pos (by simp; rw [← hb]; exact Classical.not_not.mp he)]; omega
theorem m138 {l : Int} (n : Nat) (hn : s 72 3 = n) (hn6 : n ≤ 6) (hd : 1 ≤ d) : Ev xs L T0 106 d 138 [rf 73, it l] s (qi fun r s1 => s1 = s ∧ r = (cnt (fun p => decide (s 75 p = l)) n : Nat)) :=
  e138 hd (f138_0 (l138 n hn hn6 n 0 _ _ (by omega) rfl rfl))
