variable {xs : Nat → Int} {L : Nat} {d : Nat} {s : Pl}
def uA (k a : Int) : Bool := decide (a = 0 ∨ k = a ∨ a = 2 ∧ k = 5 ∨ a = 3 ∧ k = 4)
theorem q129n {k a w : Int} {P : Int → Pl → Prop} (h6 : 0 ≤ w ∧ w ≤ 6) (h : P 0 s) : Fr xs L T0 106 d 129 4 [some (it k), some (it a), some (it (-1)), some (it w)] [] s (qi P) := by
  refine f129_4 ?_
  grind
theorem q129 {k a w v z : Int} {P : Int → Pl → Prop} (h6 : 0 ≤ w) (hw : w < 6) (hv : 0 ≤ v ∧ v < 6) (hz : (zgiv xs L 0).2 v = z) (h1 : v = a → P 1 s) (h2 : v ≠ a → Fr xs L T0 106 d 129 4 [some (it k), some (it a), some (it z), some (it (w + 1))] [] s (qi P)) : Fr xs L T0 106 d 129 4 [some (it k), some (it a), some (it v), some (it w)] [] s (qi P) := by
  have e : ((zgiv xs L 0).1 : Int) = 6 := rfl
  have hz9 : zw (w + 1) = w + 1 := zw_id (by omega) (by omega)
  refine f129_4 ?_
  rw [e, hz9, hz]
  grind
theorem i129 {k a : Int} {P : Int → Pl → Prop} (hd : 1 ≤ d) (hk : 0 ≤ k ∧ k ≤ 5) (h : P (if uA k a then 1 else 0) s) : Ev xs L T0 106 d 129 [it k, it a] s (qi P) := by
  refine e129 hd (f129_0 ?_)
  have c : k = 0 ∨ k = 1 ∨ k = 2 ∨ k = 3 ∨ k = 4 ∨ k = 5 := by omega
  rcases c with rfl | rfl | rfl | rfl | rfl | rfl
  · refine q129 (z := -1) (by omega) (by omega) (by omega) rfl (fun h1 => ?_) (fun h1 => q129n (by omega) ?_)
    · rw [if_pos (by simp [uA]; omega)] at h; exact h
    · rw [if_neg (by simp [uA]; omega)] at h; exact h
  · refine q129 (z := 0) (by omega) (by omega) (by omega) rfl (fun h1 => ?_) (fun h1 => q129 (z := -1) (by omega) (by omega) (by omega) rfl (fun h1 => ?_) (fun h1 => q129n (by omega) ?_))
    · rw [if_pos (by simp [uA]; omega)] at h; exact h
    · rw [if_pos (by simp [uA]; omega)] at h; exact h
    · rw [if_neg (by simp [uA]; omega)] at h; exact h
  · refine q129 (z := 0) (by omega) (by omega) (by omega) rfl (fun h1 => ?_) (fun h1 => q129 (z := -1) (by omega) (by omega) (by omega) rfl (fun h1 => ?_) (fun h1 => q129n (by omega) ?_))
    · rw [if_pos (by simp [uA]; omega)] at h; exact h
    · rw [if_pos (by simp [uA]; omega)] at h; exact h
    · rw [if_neg (by simp [uA]; omega)] at h; exact h
  · refine q129 (z := 0) (by omega) (by omega) (by omega) rfl (fun h1 => ?_) (fun h1 => q129 (z := -1) (by omega) (by omega) (by omega) rfl (fun h1 => ?_) (fun h1 => q129n (by omega) ?_))
    · rw [if_pos (by simp [uA]; omega)] at h; exact h
    · rw [if_pos (by simp [uA]; omega)] at h; exact h
    · rw [if_neg (by simp [uA]; omega)] at h; exact h
  · refine q129 (z := 3) (by omega) (by omega) (by omega) rfl (fun h1 => ?_) (fun h1 => q129 (z := 0) (by omega) (by omega) (by omega) rfl (fun h1 => ?_) (fun h1 => q129 (z := -1) (by omega) (by omega) (by omega) rfl (fun h1 => ?_) (fun h1 => q129n (by omega) ?_)))
    · rw [if_pos (by simp [uA]; omega)] at h; exact h
    · rw [if_pos (by simp [uA]; omega)] at h; exact h
    · rw [if_pos (by simp [uA]; omega)] at h; exact h
    · rw [if_neg (by simp [uA]; omega)] at h; exact h
  · refine q129 (z := 2) (by omega) (by omega) (by omega) rfl (fun h1 => ?_) (fun h1 => q129 (z := 0) (by omega) (by omega) (by omega) rfl (fun h1 => ?_) (fun h1 => q129 (z := -1) (by omega) (by omega) (by omega) rfl (fun h1 => ?_) (fun h1 => q129n (by omega) ?_)))
    · rw [if_pos (by simp [uA]; omega)] at h; exact h
    · rw [if_pos (by simp [uA]; omega)] at h; exact h
    · rw [if_pos (by simp [uA]; omega)] at h; exact h
    · rw [if_neg (by simp [uA]; omega)] at h; exact h
/-- whoIsA -/
theorem l7 {l : Int} (n : Nat) (hd : 1 ≤ d) (hn : s 1 1 = n) (hn6 : n ≤ 6) (hk : ∀ p : Int, 0 ≤ p → p < n → 0 ≤ s 3 p ∧ s 3 p ≤ 5) : ∀ (j k : Nat) (a b : Int), k + j = n → a = (btn (fun p => uA (s 3 p) l) k : Nat) → b = (k : Nat) → Fr xs L T0 106 d 7 4 [some (rf 2), some (it l), some (it a), some (it b)] [] s (qi fun r s1 => s1 = s ∧ r = (btn (fun p => uA (s 3 p) l) n : Nat)) := by
  intro j
  induction j with
  | zero =>
    intro k a b hk ha hb
    refine f7_4 ⟨fun _ => ⟨rfl, by rw [ha]; congr 2⟩, fun h => absurd h (by omega)⟩
  | succ j ih =>
    intro k a b hk9 ha hb
    have hz : zw (b + 1) = (k + 1 : Nat) := by rw [zw_id (by omega) (by omega)]; omega
    refine f7_4 ⟨fun h => absurd h (by omega), fun _ => ⟨fun h => absurd h (by omega), fun _ => ⟨by omega, ?_⟩⟩⟩
    refine i129 hd (hk b (by omega) (by omega)) ?_
    have hlt := btn_lt (fun p => uA (s 3 p) l) k
    by_cases hu : uA (s 3 b) l = true
    · rw [if_pos hu]
      refine ⟨fun h => absurd h (by decide), fun _ => f7_37 (ih (k + 1) _ _ (by omega) ?_ hz)⟩
      rw [ha, hb, zor_bitL k (by omega) _ hlt]
      simp only [btn]
      rw [if_pos (by rw [← hb]; exact hu)]
    · rw [if_neg hu]
      refine ⟨fun _ => f7_37 (ih (k + 1) _ _ (by omega) ?_ hz), fun h => absurd rfl h⟩
      rw [ha]
      simp only [btn]
      rw [if_neg (by rw [← hb]; exact hu), Nat.add_zero]
theorem m7 {l : Int} (n : Nat) (hn : s 1 1 = n) (hn6 : n ≤ 6) (hk : ∀ p : Int, 0 ≤ p → p < n → 0 ≤ s 3 p ∧ s 3 p ≤ 5) (hd : 2 ≤ d) : Ev xs L T0 106 d 7 [rf 2, it l] s (qi fun r s1 => s1 = s ∧ r = (btn (fun p => uA (s 3 p) l) n : Nat)) :=
  e7 (by omega) (f7_0 (l7 n (by omega) hn hn6 hk n 0 _ _ (by omega) rfl rfl))
theorem i226 {k a : Int} {P : Int → Pl → Prop} (hd : 1 ≤ d) (h : P (if uA k a then 1 else 0) s) : Ev xs L T0 106 d 226 [it k, it a] s (qi P) := by
  refine e226 hd (f226_0 ?_)
  have h1 : uA k a = true → P 1 s := fun hu => by rw [if_pos hu] at h; exact h
  have h0 : ¬ uA k a = true → P 0 s := fun hu => by rw [if_neg hu] at h; exact h
  simp only [uA, decide_eq_true_eq] at h1 h0
  grind [f226_19, f226_29]
