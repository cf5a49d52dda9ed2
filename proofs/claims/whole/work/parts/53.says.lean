variable {xs : Nat → Int} {L : Nat} {d : Nat} {s : Pl}
theorem sx_cong {nm nm2 : Int → Int} (h : ∀ i : Int, 0 ≤ i → i < 6 → nm i = nm2 i) (c : Int) (st : List Int) : sx nm c st = sx nm2 c st := by
  unfold sx
  by_cases h0 : 0 ≤ c
  · simp only [if_pos h0]
  · simp only [if_neg h0]
    by_cases h6 : -6 ≤ c
    · simp only [if_pos h6]
      rw [h (-1 - c) (by omega) (by omega)]
    · simp only [if_neg h6]
theorem exs_cong {nm nm2 : Int → Int} (h : ∀ i : Int, 0 ≤ i → i < 6 → nm i = nm2 i) (f : Int → Int) : ∀ (j b : Nat) (st : List Int), exs nm f b j st = exs nm2 f b j st := by
  intro j
  induction j with
  | zero => intro b st; rfl
  | succ j ih => intro b st; simp only [exs]; rw [sx_cong h, ih]
theorem lawV_cong {nm nm2 : Int → Int} (h : ∀ i : Int, 0 ≤ i → i < 6 → nm i = nm2 i) (f g : Int → Int) (part : Int) : lawV f g nm part = lawV f g nm2 part := by
  unfold lawV
  rw [exs_cong h]
def nm6 (a b c e f g : Int) : Int → Int := fun i => if i = 0 then a else if i = 1 then b else if i = 2 then c else if i = 3 then e else if i = 4 then f else g
def held9 (v a b : Int) : Int := if v < a then a else if b < v then b else v
theorem i39 {a b c e f g : Int} {P : Pl → Prop} (hd : 1 ≤ d) (h : ∀ s1 : Pl, (∀ i : Int, 0 ≤ i → i < 6 → s1 58 i = nm6 a b c e f g i) → (∀ c i, c ≠ 58 → s1 c i = s c i) → P s1) : Ev xs L T0 106 d 39 [rf 58, it a, it b, it c, it e, it f, it g] s (qv P) := by
  refine e39 hd (f39_0 ⟨by decide, by decide, by decide, by decide, by decide, by decide, h _ ?_ ?_⟩)
  · intro i h0 h1
    have : i = 0 ∨ i = 1 ∨ i = 2 ∨ i = 3 ∨ i = 4 ∨ i = 5 := by omega
    rcases this with rfl | rfl | rfl | rfl | rfl | rfl <;> simp [zg, nm6]
  · intro c i hc
    simp [zg, hc]
theorem i163 {P : Pl → Prop} (hd : 1 ≤ d) (h : ∀ s1 : Pl, (∀ i : Int, 0 ≤ i → i < 6 → s1 86 i = 0) → (∀ c i, c ≠ 86 → s1 c i = s c i) → P s1) : Ev xs L T0 106 d 163 [rf 73] s (qv P) := by
  have l : ∀ (j : Nat) (k : Int) (s2 : Pl), k + j = 6 → 0 ≤ k → (∀ i : Int, 0 ≤ i → i < k → s2 86 i = 0) → (∀ c i, c ≠ 86 → s2 c i = s c i) → Fr xs L T0 106 (d - 1) 163 2 [some (rf 73), some (it k)] [] s2 (qv P) := by
    intro j
    induction j with
    | zero => intro k s2 hk h0 h1 h2; exact f163_2 ⟨fun _ => h s2 (fun i a b => h1 i a (by omega)) h2, fun h3 => absurd (by omega) h3⟩
    | succ j ih =>
      intro k s2 hk h0 h1 h2
      refine f163_2 ⟨fun h3 => absurd h3 (by omega), fun _ => ⟨by omega, ?_⟩⟩
      rw [zw_id (x := k + 1) (by omega) (by omega)]
      refine ih (k + 1) _ (by omega) (by omega) ?_ ?_
      · intro i a b
        rw [zg]
        split
        · rfl
        · rename_i h4; exact h1 i a (by simp at h4; omega)
      · intro c i hc
        rw [zg, if_neg (by simp [hc])]
        exact h2 c i hc
  exact e163 hd (f163_0 (l 6 0 s rfl (by omega) (fun i a b => absurd a (by omega)) (fun _ _ _ => rfl)))
