variable {xs : Nat → Int} {L : Nat} {d : Nat} {s : Pl}
theorem l162 {tb te : Int} (htb : 0 ≤ tb ∧ tb ≤ 850) (hte : 0 ≤ te ∧ te < 21) (hd : 1 ≤ d) {v1 : Int} {f : Int → Int} {e : Nat} (he : e ≤ 160) (s0 : Pl) (z1 : zw (zw (3 * s0 72 14) + v1) = te) (z0 : zw (170 * s0 72 14) = tb) (hend : s0 84 te = (e : Nat)) (hok : ∀ k : Nat, k < e → stp (s0 82 (tb + (k : Nat))) (s0 83 (tb + (k : Nat))) (f (k : Nat))) : ∀ (j b : Nat) (st : List Int) (s : Pl) (n v3 i : Int), b + j = e → dp f b j st.length = some 1 → st.length ≤ 31 → rep (s 85) st → (∀ c k, c ≠ 85 → s c k = s0 c k) → n = (st.length : Nat) → i = tb + (b : Nat) →
    Fr xs L T0 106 d 162 95 [some (rf 73), some (it v1), some (it n), some (it v3), some (it i)] [] s (qi fun r s1 => r = (exs (s0 86) f b j st).headD 0 ∧ ∀ c k, c ≠ 85 → s1 c k = s0 c k) := by
  have z2 : zw (tb + (e : Nat)) = tb + (e : Nat) := zw_id (by omega) (by omega)
  intro j
  induction j with
  | zero =>
    intro b st s n v3 i hb hdp hl hr h0 hn hi
    have e14 : s 72 14 = s0 72 14 := h0 _ _ (by decide)
    refine f162_95 ?_
    rw [e14, z1, h0 84 _ (by decide), hend, z0, z2]
    refine ⟨hte, fun _ => ⟨by decide, ?_, h0⟩, fun h => absurd (by omega) h⟩
    simp only [dp, Option.some.injEq] at hdp
    match st, hdp, hr with
    | [a], _, hr => exact hr.1
  | succ j ih =>
    intro b st s n v3 i hb hdp hl hr h0 hn hi
    have e14 : s 72 14 = s0 72 14 := h0 _ _ (by decide)
    have z3 : zw (i + 1) = tb + ((b + 1 : Nat) : Int) := by rw [zw_id (by omega) (by omega)]; omega
    have hs := hok b (by omega)
    rw [← hi] at hs
    have h02 : ∀ (p q : Int) c k, c ≠ 85 → zup s 85 p q c k = s0 c k := fun p q c k h => by rw [zune _ _ _ h, h0 c k h]
    refine f162_95 ?_
    rw [e14, z1, h0 84 _ (by decide), hend, z0, z2, h0 82 _ (by decide), h0 83 _ (by decide)]
    have nx : ∀ (st2 : List Int) (n2 : Int), dp f (b + 1) j st2.length = some 1 → st2.length ≤ 31 → exs (s0 86) f b (j + 1) st = exs (s0 86) f (b + 1) j st2 → n2 = (st2.length : Nat) → ∀ s2 : Pl, rep (s2 85) st2 → (∀ c k, c ≠ 85 → s2 c k = s0 c k) → Fr xs L T0 106 d 162 287 [some (rf 73), some (it v1), some (it n2), some (it v3), some (it i)] [] s2 (qi fun r s1 => r = (exs (s0 86) f b (j + 1) st).headD 0 ∧ ∀ c k, c ≠ 85 → s1 c k = s0 c k) := by
      intro st2 n2 k1 k2 k3 k4 s2 k5 k6
      refine f162_287 ?_
      rw [z3, k3]
      exact ih (b + 1) st2 s2 n2 v3 _ (by omega) k1 k2 k5 k6 k4 rfl
    have hsm := fun (p q : Int) => zusm s 85 p q
    generalize hA : s0 82 i = A at hs
    generalize hW : s0 83 i = W at hs
    generalize hC : f (b : Nat) = C at hs
    have i2 : ∀ st2, sx (s0 86) C st = st2 → exs (s0 86) f b (j + 1) st = exs (s0 86) f (b + 1) j st2 := by
      intro st2 k1
      simp only [exs]
      rw [hC, k1]
    simp only [dp, hC] at hdp
    refine ⟨hte, fun h => absurd h (by omega), fun _ => ⟨by omega, ?_, ?_, ?_, ?_, ?_⟩⟩
    · intro hb4
      have hC2 : C < -6 ∧ C ≠ -12 ∧ C ≠ -13 := by unfold stp at hs; omega
      rw [if_neg (by omega), if_neg (by omega)] at hdp
      by_cases h1 : 2 ≤ st.length
      · rw [if_pos h1] at hdp
        obtain ⟨a2, a, r, rfl⟩ : ∃ a2 a r, st = a2 :: a :: r := by
          match st, h1 with
          | a2 :: a :: r, _ => exact ⟨a2, a, r, rfl⟩
        have hlen : ((a2 :: a :: r).length : Int) = (r.length : Int) + 2 := by simp; omega
        have hlen2 : ((a :: r).length : Int) = (r.length : Int) + 1 := by simp
        have hx1 : zw (n - 2) = (r.length : Nat) := by rw [zw_id (by omega) (by omega)]; omega
        have hx2 : zw (n - 1) = (r.length : Nat) + 1 := by rw [zw_id (by omega) (by omega)]; omega
        have hx3 : zw (n + (-1)) = (r.length : Nat) + 1 := by rw [zw_id (by omega) (by omega)]; omega
        have ha : s 85 (r.length : Nat) = a := hr.2.1
        have ha2 : s 85 ((r.length : Nat) + 1) = a2 := by rw [← hlen2]; exact hr.1
        rw [hx1, hx2, hx3, ha, ha2]
        refine ⟨by omega, by omega, by omega, i161 hd hs hb4 ⟨by omega, ?_⟩⟩
        refine nx (op2 C a a2 :: r) _ (by simpa using hdp) (by simp at hl; simp; omega) (i2 _ ?_) (by simp) _ ?_ (h02 _ _)
        · unfold sx
          rw [if_neg (by omega), if_neg (by omega), if_neg (by omega), if_neg (by omega)]
        · rw [hsm]
          exact rep_cons hr.2.2
      · rw [if_neg h1] at hdp
        exact absurd hdp (by simp)
    · intro h1
      have hC2 : 0 ≤ W ∧ C = W := by unfold stp at hs; omega
      rw [if_pos (by omega)] at hdp
      by_cases h31 : st.length < 31
      · rw [if_pos h31] at hdp
        rw [zw_id (x := n + 1) (by omega) (by omega)]
        refine ⟨by omega, by omega, nx (W :: st) _ (by simpa using hdp) (by simp; omega) (i2 _ ?_) (by simp; omega) _ ?_ (h02 _ _)⟩
        · unfold sx
          rw [if_pos (by omega), hC2.2]
        · rw [hsm, hn]
          exact rep_cons hr
      · rw [if_neg h31] at hdp
        exact absurd hdp (by simp)
    · intro h1
      have hC2 : (0 ≤ W ∧ W < 6) ∧ C = -1 - W := by unfold stp at hs; omega
      rw [if_pos (by omega)] at hdp
      by_cases h31 : st.length < 31
      · rw [if_pos h31] at hdp
        rw [zw_id (x := n + 1) (by omega) (by omega)]
        refine ⟨by omega, hC2.1, by omega, nx (s0 86 W :: st) _ (by simpa using hdp) (by simp; omega) (i2 _ ?_) (by simp; omega) _ ?_ (h02 _ _)⟩
        · unfold sx
          rw [if_neg (by omega), if_pos (by omega)]
          congr 2
          omega
        · rw [hsm, hn, h0 86 _ (by decide)]
          exact rep_cons hr
      · rw [if_neg h31] at hdp
        exact absurd hdp (by simp)
    · intro h3
      have hC2 : C = -12 := by unfold stp at hs; omega
      rw [if_neg (by omega), if_pos (by omega)] at hdp
      by_cases h1 : 1 ≤ st.length
      · rw [if_pos h1] at hdp
        obtain ⟨a, r, rfl⟩ : ∃ a r, st = a :: r := by
          match st, h1 with
          | a :: r, _ => exact ⟨a, r, rfl⟩
        have hlen : ((a :: r).length : Int) = (r.length : Int) + 1 := by simp
        have hx2 : zw (n - 1) = (r.length : Nat) := by rw [zw_id (by omega) (by omega)]; omega
        have ha : s 85 (r.length : Nat) = a := hr.1
        rw [hx2, ha]
        refine ⟨by omega, fun h5 => f162_226 ⟨by omega, nx (0 :: r) _ (by simpa using hdp) (by simpa using hl) (i2 _ ?_) (by simpa using hn) _ ?_ (h02 _ _)⟩, fun h5 => f162_226 ⟨by omega, nx (1 :: r) _ (by simpa using hdp) (by simpa using hl) (i2 _ ?_) (by simpa using hn) _ ?_ (h02 _ _)⟩⟩
        · unfold sx
          rw [if_neg (by omega), if_neg (by omega), if_pos hC2]
          simp only [if_neg h5]
        · rw [hsm]
          exact rep_cons hr.2
        · unfold sx
          rw [if_neg (by omega), if_neg (by omega), if_pos hC2]
          simp only [if_pos (Classical.not_not.mp h5)]
        · rw [hsm]
          exact rep_cons hr.2
      · rw [if_neg h1] at hdp
        exact absurd hdp (by simp)
    · intro h3
      have hC2 : C = -13 := by unfold stp at hs; omega
      rw [if_neg (by omega), if_pos (by omega)] at hdp
      by_cases h1 : 1 ≤ st.length
      · rw [if_pos h1] at hdp
        obtain ⟨a, r, rfl⟩ : ∃ a r, st = a :: r := by
          match st, h1 with
          | a :: r, _ => exact ⟨a, r, rfl⟩
        have hlen : ((a :: r).length : Int) = (r.length : Int) + 1 := by simp
        have hx2 : zw (n - 1) = (r.length : Nat) := by rw [zw_id (by omega) (by omega)]; omega
        have ha : s 85 (r.length : Nat) = a := hr.1
        rw [hx2, ha]
        refine ⟨by omega, by omega, nx (zw (-a) :: r) _ (by simpa using hdp) (by simpa using hl) (i2 _ ?_) (by simpa using hn) _ ?_ (h02 _ _)⟩
        · unfold sx
          rw [if_neg (by omega), if_neg (by omega), if_neg (by omega), if_pos hC2]
        · rw [hsm]
          exact rep_cons hr.2
      · rw [if_neg h1] at hdp
        exact absurd hdp (by simp)
