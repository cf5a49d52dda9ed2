/-! a law's codes on a pile of numbers -/
def op2 (c a b : Int) : Int := if c = -10 then (if a ≠ 0 ∨ b ≠ 0 then 1 else 0) else if c = -11 then (if a ≠ 0 ∧ b ≠ 0 then 1 else 0) else if c = -60 then (if a < b then 1 else 0) else if c = -61 then (if a = b then 1 else 0) else if c = -43 then zw (a + b) else if c = -45 then zw (a - b) else zw (a * b)
def isB (c : Int) : Prop := c = -10 ∨ c = -11 ∨ c = -42 ∨ c = -43 ∨ c = -45 ∨ c = -60 ∨ c = -61
def sx (nm : Int → Int) (c : Int) (st : List Int) : List Int :=
  if 0 ≤ c then c :: st else if -6 ≤ c then nm (-1 - c) :: st else
  if c = -12 then (match st with | a :: r => (if a = 0 then 1 else 0) :: r | [] => []) else
  if c = -13 then (match st with | a :: r => zw (-a) :: r | [] => []) else
  match st with | b :: a :: r => op2 c a b :: r | _ => []
def exs (nm : Int → Int) (f : Int → Int) : Nat → Nat → List Int → List Int
  | _, 0, st => st
  | b, j + 1, st => exs nm f (b + 1) j (sx nm (f (b : Nat)) st)
/-- how many lie on the pile behind these codes; none: too few or too many at one of them -/
def dp (f : Int → Int) : Nat → Nat → Nat → Option Nat
  | _, 0, h => some h
  | b, j + 1, h =>
    if -6 ≤ f (b : Nat) then (if h < 31 then dp f (b + 1) j (h + 1) else none) else
    if f (b : Nat) = -12 ∨ f (b : Nat) = -13 then (if 1 ≤ h then dp f (b + 1) j h else none) else
    if 2 ≤ h then dp f (b + 1) j (h - 1) else none
def rep (g : Int → Int) : List Int → Prop
  | [] => True
  | a :: r => g (r.length : Nat) = a ∧ rep g r
theorem rep_up {g : Int → Int} {i v : Int} : ∀ {st : List Int}, rep g st → (st.length : Int) ≤ i → rep (fun b => if b = i then v else g b) st := by
  intro st
  induction st with
  | nil => intro _ _; trivial
  | cons a r ih =>
    intro h hi
    have hl : ((a :: r).length : Int) = (r.length : Int) + 1 := by simp
    refine ⟨?_, ih h.2 (by omega)⟩
    have : ¬ ((r.length : Nat) : Int) = i := by omega
    simp only [if_neg this]
    exact h.1
theorem rep_cons {g : Int → Int} {v : Int} {st : List Int} (h : rep g st) : rep (fun b => if b = ((st.length : Nat) : Int) then v else g b) (v :: st) :=
  ⟨by simp, rep_up h (by omega)⟩
variable {xs : Nat → Int} {L : Nat} {d : Nat} {s : Pl}
theorem i15 {c a b : Int} {P : Int → Pl → Prop} (hd : 1 ≤ d) (hB : isB c → P (op2 c a b) s) (hN : c = -12 → P (if a = 0 then 1 else 0) s) (hT : c = -13 → P (zw (-a)) s) (hc : isB c ∨ c = -12 ∨ c = -13) : Ev xs L T0 106 d 15 [it c, it a, it b] s (qi P) := by
  refine e15 hd (f15_0 ?_)
  unfold isB at *
  rcases hc with (rfl | rfl | rfl | rfl | rfl | rfl | rfl) | rfl | rfl <;> simp [op2] at * <;> grind [f15_84]
theorem i14 {c : Int} {P : Int → Pl → Prop} (hd : 1 ≤ d) (h : -6 ≤ c) (h1 : 0 ≤ c → P c s) (h2 : c < 0 → P (s 58 (-1 - c)) s) : Ev xs L T0 106 d 14 [it c, rf 59] s (qi P) := by
  refine e14 hd (f14_0 ?_)
  refine ⟨fun h3 => ?_, fun h3 => h1 (by omega)⟩
  rw [zw_id (x := -1 - c) (by omega) (by omega)]
  exact ⟨fun h4 => absurd h4 (by omega), fun _ => ⟨by omega, h2 h3⟩⟩
