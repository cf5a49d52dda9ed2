/-! what the small methods answer -/
variable {xs : Nat → Int} {L : Nat} {d : Nat} {s : Pl}
theorem m126 {v : Int} (hd : 1 ≤ d) : Ev xs L T0 106 d 126 [it v] s (qi fun r s1 => s1 = s ∧ r = if 0 ≤ v ∧ v < 4 then 1 else 0) := by
  refine e126 hd (f126_0 ?_)
  grind
theorem m127 {v : Int} (hd : 1 ≤ d) : Ev xs L T0 106 d 127 [it v] s (qi fun r s1 => s1 = s ∧ r = if 0 ≤ v ∧ v ≤ 255 then 1 else 0) := by
  refine e127 hd (f127_0 ?_)
  grind
theorem m128 {v : Int} (hd : 1 ≤ d) : Ev xs L T0 106 d 128 [it v] s (qi fun r s1 => s1 = s ∧ r = if 0 ≤ v ∧ v < 4 then 1 else 0) := by
  refine e128 hd (f128_0 ?_)
  grind
theorem m2 {v : Int} (hd : 1 ≤ d) (hn : s 1 1 ≤ 6) : Ev xs L T0 106 d 2 [rf 2, it v] s (qi fun r s1 => s1 = s ∧ r = if 0 ≤ v ∧ v < s 1 1 then 1 else 0) := by
  refine e2 hd (f2_0 ?_)
  grind
theorem m132 {v a b : Int} (hd : 1 ≤ d) : Ev xs L T0 106 d 132 [it v, it a, it b] s (qi fun r s1 => s1 = s ∧ r = if a ≤ v ∧ v ≤ b then 1 else 0) := by
  refine e132 hd (f132_0 ?_)
  grind
theorem m133 {v a b : Int} (hd : 1 ≤ d) : Ev xs L T0 106 d 133 [it v, it a, it b] s (qi fun r s1 => s1 = s ∧ r = if v < a then a else if b < v then b else v) := by
  refine e133 hd (f133_0 ?_)
  grind
theorem m134 {v : Int} (hd : 2 ≤ d) : Ev xs L T0 106 d 134 [it v] s (qi fun r s1 => s1 = s ∧ r = if 0 ≤ v ∧ v ≤ 3 then 1 else 0) := by
  refine e134 (by omega) (f134_0 ?_)
  refine (m132 (by omega)).i ?_
  grind
theorem i230 {T : List (Nat × Int × Int)} {n : Nat} {a b : Int} {P : Int → Pl → Prop} (hd : 1 ≤ d) (h : P (if a < b then b else a) s) : Ev xs L T n d 230 [it a, it b] s (qi P) := by
  refine e230 hd (f230_0 ⟨fun h1 => ?_, fun h1 => ?_⟩)
  · rw [if_pos h1] at h; exact h
  · rw [if_neg h1] at h; exact h
theorem i231 {T : List (Nat × Int × Int)} {n : Nat} {a b : Int} {P : Int → Pl → Prop} (hd : 1 ≤ d) (h : P (if b < a then b else a) s) : Ev xs L T n d 231 [it a, it b] s (qi P) := by
  refine e231 hd (f231_0 ⟨fun h1 => ?_, fun h1 => ?_⟩)
  · rw [if_pos h1] at h; exact h
  · rw [if_neg h1] at h; exact h
