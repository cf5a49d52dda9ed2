/-! a switch's other case -/
theorem zlso_no {ps : List (Int × Int)} {df x : Int} (h : ∀ q ∈ ps, ¬ q.1 = x) : Op.lookupswitch.offset ps df x = df := by
  induction ps with
  | nil => rfl
  | cons q ps ih =>
    obtain ⟨a, b⟩ := q
    have e1 : Op.lookupswitch.offset ((a, b) :: ps) df x = if a = x then b else Op.lookupswitch.offset ps df x := rfl
    rw [e1, if_neg (h (a, b) List.mem_cons_self)]
    exact ih (fun q hq => h q (List.mem_cons_of_mem _ hq))
