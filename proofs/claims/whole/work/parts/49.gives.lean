variable {xs : Nat → Int} {L : Nat} {d : Nat} {s : Pl}
theorem l162 {tb te : Int} (htb : 0 ≤ tb ∧ tb ≤ 850) (hte : 0 ≤ te ∧ te < 21) (hd : 1 ≤ d) {v1 : Int} {f : Int → Int} {e : Nat} (he : e ≤ 160) (s0 : Pl) (z1 : zw (zw (3 * s0 70 14) + v1) = te) (z0 : zw (170 * s0 70 14) = tb) (hend : s0 82 te = (e : Nat)) (hok : ∀ k : Nat, k < e → stp (s0 80 (tb + (k : Nat))) (s0 81 (tb + (k : Nat))) (f (k : Nat))) : ∀ (j b : Nat) (st : List Int) (s : Pl) (n v3 i : Int), b + j = e → dp f b j st.length = some 1 → st.length ≤ 31 → rep (s 83) st → (∀ c k, c ≠ 83 → s c k = s0 c k) → n = (st.length : Nat) → i = tb + (b : Nat) →
    Fr xs L T0 104 d 162 95 [some (rf 71), some (it v1), some (it n), some (it v3), some (it i)] [] s (qi fun r s1 => r = (exs (s0 84) f b j st).headD 0 ∧ ∀ c k, c ≠ 83 → s1 c k = s0 c k) := by
  have z2 : zw (tb + (e : Nat)) = tb + (e : Nat) := zw_id (by omega) (by omega)
  intro j
  induction j with
  | zero =>
    intro b st s n v3 i hb hdp hl hr h0 hn hi
    have e14 : s 70 14 = s0 70 14 := h0 _ _ (by decide)
    refine f162_95 ?_
    rw [e14, z1, h0 82 _ (by decide), hend, z0, z2]
    refine ⟨hte, fun _ => ⟨by decide, ?_, h0⟩, fun h => absurd (by omega) h⟩
    simp only [dp, Option.some.injEq] at hdp
    match st, hdp, hr with
    | [a], _, hr => exact hr.1
  | succ j ih =>
    intro b st s n v3 i hb hdp hl hr h0 hn hi
    have e14 : s 70 14 = s0 70 14 := h0 _ _ (by decide)
    have z3 : zw (i + 1) = tb + ((b + 1 : Nat) : Int) := by rw [zw_id (by omega) (by omega)]; omega
    have hs := hok b (by omega)
    rw [← hi] at hs
    have h02 : ∀ (p q : Int) c k, c ≠ 83 → zup s 83 p q c k = s0 c k := fun p q c k h => by rw [zune _ _ _ h, h0 c k h]
    refine f162_95 ?_
    rw [e14, z1, h0 82 _ (by decide), hend, z0, z2, h0 80 _ (by decide), h0 81 _ (by decide)]
    refine ⟨hte, fun h => absurd h (by omega), fun _ => ⟨by omega, ?_, ?_, ?_, ?_, ?_⟩⟩
    · intro hb4
      sorry
    · intro h1
      sorry
    · intro h1
      sorry
    · intro h1
      sorry
    · intro h1
      sorry
