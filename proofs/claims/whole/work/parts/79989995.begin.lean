/-! where it all begins -/
def pgo : List (Nat × Option (Int × Int)) → Nat → Int → Option Int → Option Int
  | [], _, _, o => o
  | (a, none) :: r, c, i, o => pgo r c i (if a = c then some 0 else o)
  | (a, some (j, v)) :: r, c, i, o => pgo r c i (if a = c ∧ j = i then some v else o)
theorem pap_get {c : Nat} {i v : Int} : ∀ (l : List (Nat × Option (Int × Int))) (s : Pl) (o : Option Int), (∀ w, o = some w → s c i = w) → pgo l c i o = some v → pap s l c i = v
  | [], s, o, h, e => h v e
  | (a, none) :: r, s, o, h, e => by
    refine pap_get r (znew s a) _ (fun w hw => ?_) e
    rw [zng]
    by_cases q : a = c
    · rw [if_pos q] at hw; cases hw; rw [if_pos q.symm]
    · rw [if_neg q] at hw; rw [if_neg (fun w => q w.symm)]; exact h w hw
  | (a, some (j, x)) :: r, s, o, h, e => by
    refine pap_get r (zup s a j x) _ (fun w hw => ?_) e
    rw [zg]
    by_cases q : a = c ∧ j = i
    · rw [if_pos q] at hw; cases hw; rw [if_pos ⟨q.1.symm, q.2.symm⟩]
    · rw [if_neg q] at hw; rw [if_neg (fun w => q ⟨w.1.symm, w.2.symm⟩)]; exact h w hw
def pze : List (Nat × Option (Int × Int)) → Nat → Bool → Bool
  | [], _, b => b
  | (a, none) :: r, c, b => pze r c (if a = c then true else b)
  | (a, some _) :: r, c, b => pze r c (if a = c then false else b)
theorem pap_zero {c : Nat} : ∀ (l : List (Nat × Option (Int × Int))) (s : Pl) (b : Bool), (b = true → s c = fun _ => 0) → pze l c b = true → pap s l c = fun _ => 0
  | [], s, b, h, e => h e
  | (a, none) :: r, s, b, h, e => by
    refine pap_zero r (znew s a) _ (fun hb => ?_) e
    by_cases q : a = c
    · unfold znew; rw [if_pos q.symm]
    · rw [if_neg q] at hb
      unfold znew; rw [if_neg (fun w => q w.symm)]; exact h hb
  | (a, some (j, x)) :: r, s, b, h, e => by
    refine pap_zero r (zup s a j x) _ (fun hb => ?_) e
    by_cases q : a = c
    · rw [if_pos q] at hb; cases hb
    · rw [if_neg q] at hb
      rw [zune _ _ _ (fun w => q w.symm)]; exact h hb
def T1 : List (Nat × Int × Int) := T0.filter fun e => decide (e.1 < 57) && !(decide (e.1 = 0) && (decide (e.2.1 = 6) || decide (e.2.1 = 7) || decide (e.2.1 = 8)))
theorem T1_sub : ∀ e ∈ T1, e ∈ T0 := fun e h => (List.mem_filter.mp h).1
theorem T1_ok : Tok T1 := fun e h => T0_ok e (T1_sub e h)
theorem KR1 : KR T1 57 := ⟨by decide, by decide +kernel, T1_sub⟩
def tx0 : TxT := txG (fun i => sch 2 i) 48 0 (fun _ => 0)
def txOK : TxT → Bool
  | .inl (e0, e1, z) => decide (e0 = 1) && decide (e1 = 2) && decide (z.l = 9) && decide (z.C 0 = 1) && decide (z.C 1 = -4) && decide (z.C 2 = -4) && decide (z.C 3 = -5) && decide (z.C 4 = -6) && decide (z.C 5 = 1) && decide (z.C 6 = -43) && decide (z.C 7 = -60) && decide (z.C 8 = -42)
  | .inr _ => false
theorem tx0_ok : txOK tx0 = true := by decide +kernel
