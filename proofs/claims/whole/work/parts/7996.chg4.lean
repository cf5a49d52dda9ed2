/-! taken, feed -/
theorem zb8_twice : ∀ a, a < 256 → zb8 (zb8 ((a : Nat) : Int)) = zb8 ((a : Nat) : Int) := by decide +kernel
variable {xs : Nat → Int} {L : Nat} {d : Nat} {s : Pl}
/-- taken -/
theorem J121 {u v : Int} (hd : 8 ≤ d) (hI : Inv s) : Ev xs L T0 106 d 121 [rf 1, it u, it v] s (qi fun r s1 => Ev xs L T0 106 d 227 [rf 73, it u, it v] s1 (qi fun r2 s2 => r2 = r ∧ Inv s2)) := by
  obtain ⟨a1, a2, a3, a4, a5, a6⟩ := hI.1.1
  obtain ⟨n, hn⟩ : ∃ n : Nat, s 1 1 = (n : Nat) := ⟨(s 1 1).toNat, by omega⟩
  have model : ∀ r : Int, (¬ (0 ≤ v ∧ v ≤ 6) → r = -2) → ((0 ≤ v ∧ v ≤ 6) → ¬ (0 ≤ u ∧ u ≤ 9) → r = -12) → ((0 ≤ v ∧ v ≤ 6) → (4 ≤ u ∧ u ≤ 9) → ¬ (u - 4 < (n : Nat)) → r = -11) → ((0 ≤ v ∧ v ≤ 6) → (4 ≤ u ∧ u ≤ 9) → u - 4 < (n : Nat) → v = 6 ∨ uA (s 3 (u - 4)) v = false → r = -13) → ((0 ≤ v ∧ v ≤ 5) → (4 ≤ u ∧ u ≤ 9) → u - 4 < (n : Nat) → uA (s 3 (u - 4)) v = true → r = u - 4) → ((0 ≤ v ∧ v ≤ 5) → (0 ≤ u ∧ u < 4) → r = -13) → (v = 6 → (0 ≤ u ∧ u < 4) → r = (cnt (fun p => decide (s 2 p = u)) n : Nat)) → Ev xs L T0 106 d 227 [rf 73, it u, it v] s (qi fun r2 s2 => r2 = r ∧ Inv s2) := by
    intro r b1 b2 b3 b4 b5 b6 b7
    refine e227 (by omega) (f227_0 (i132 (by omega) (fun h1 => ⟨fun _ => i132 (by omega) (fun h2 => ⟨fun _ => ⟨fun h3 => ?_, fun h3 => ⟨fun h4 => ⟨(b6 (by omega) (by omega)).symm, hI⟩, fun h4 => (m138 n (by omega) (by omega) (by omega)).i ?_⟩⟩, fun z => absurd (by decide) z⟩) (fun h2 => ⟨fun z => absurd rfl z, fun _ => ⟨(b2 h1 h2).symm, hI⟩⟩), fun z => absurd (by decide) z⟩) (fun h1 => ⟨fun z => absurd rfl z, fun _ => ⟨(b1 h1).symm, hI⟩⟩)))
    · have zz : zw (u - 4) = u - 4 := zw_id (by omega) (by omega)
      rw [zz]
      refine i135 (by omega) (by omega) (fun h4 => ⟨fun _ => ⟨fun h5 => ⟨(b4 h1 (by omega) (by omega) (Or.inl (by omega))).symm, hI⟩, fun h5 => ⟨by omega, ?_⟩⟩, fun z => absurd (by decide) z⟩) (fun h4 => ⟨fun z => absurd rfl z, fun _ => ⟨(b3 h1 (by omega) (by omega)).symm, hI⟩⟩)
      rw [(hI.1.2.2.2.1 (u - 4) (by omega) (by omega)).2.1.1]
      refine i226 (by omega) ?_
      cases e : uA (s 3 (u - 4)) v with
      | true => exact ⟨fun z => absurd z (by decide), fun _ => ⟨(b5 (by omega) (by omega) (by omega) e).symm, hI⟩⟩
      | false => exact ⟨fun _ => ⟨(b4 h1 (by omega) (by omega) (Or.inr e)).symm, hI⟩, fun z => absurd rfl z⟩
    · rintro r2 s2 ⟨rfl, rfl⟩
      refine ⟨?_, hI⟩
      rw [b7 (by omega) (by omega)]
      congr 1
      exact cnt_cong fun p hp => by rw [(hI.1.2.2.2.1 p (by omega) (by omega)).1.1]
  refine e121 (by omega) (f121_0 ⟨fun z => model _ (fun _ => rfl) (fun y => absurd z (by omega)) (fun y => absurd z (by omega)) (fun y => absurd z (by omega)) (fun y => absurd z (by omega)) (fun y => absurd z (by omega)) (fun y => absurd z (by omega)), fun z1 => ⟨fun z2 => ?_, fun z => model _ (fun _ => rfl) (fun y => absurd z (by omega)) (fun y => absurd z (by omega)) (fun y => absurd z (by omega)) (fun y => absurd z (by omega)) (fun y => absurd z (by omega)) (fun y => absurd z (by omega))⟩⟩)
  refine ⟨fun z => model _ (fun y => absurd ⟨by omega, z2⟩ y) (fun _ _ => rfl) (fun _ y => absurd z (by omega)) (fun _ y => absurd z (by omega)) (fun _ y => absurd z (by omega)) (fun _ y => absurd z (by omega)) (fun _ y => absurd z (by omega)), fun z3 => ⟨fun z4 => ?_, fun z => model _ (fun y => absurd ⟨by omega, z2⟩ y) (fun _ _ => rfl) (fun _ y => absurd z (by omega)) (fun _ y => absurd z (by omega)) (fun _ y => absurd z (by omega)) (fun _ y => absurd z (by omega)) (fun _ y => absurd z (by omega))⟩⟩
  refine ⟨fun z5 => ?_, fun z5 => ⟨fun z6 => model _ (fun y => absurd ⟨by omega, z2⟩ y) (fun _ y => absurd ⟨by omega, by omega⟩ y) (fun _ y => absurd y.1 z5) (fun _ y => absurd y.1 z5) (fun _ y => absurd y.1 z5) (fun _ _ => rfl) (fun y => absurd y z6), fun z6 => (m6 n hn (by omega) (by omega)).i ?_⟩⟩
  · have zz : zw (u - 4) = u - 4 := zw_id (by omega) (by omega)
    rw [zz]
    refine i2 (by omega) (by omega) (fun h4 => ⟨fun _ => ⟨fun h5 => model _ (fun y => absurd ⟨by omega, z2⟩ y) (fun _ y => absurd ⟨by omega, by omega⟩ y) (fun _ _ y => absurd (by omega) y) (fun _ _ _ _ => rfl) (fun y => absurd y (by omega)) (fun y => absurd y (by omega)) (fun _ y => absurd y (by omega)), fun h5 => ⟨by omega, ?_⟩⟩, fun z => absurd (by decide) z⟩) (fun h4 => ⟨fun z => absurd rfl z, fun _ => model _ (fun y => absurd ⟨by omega, z2⟩ y) (fun _ y => absurd ⟨by omega, by omega⟩ y) (fun _ _ _ => rfl) (fun _ _ y => absurd y (by omega)) (fun _ _ y => absurd y (by omega)) (fun _ y => absurd y (by omega)) (fun _ y => absurd y (by omega))⟩)
    refine i129 (by omega) (hI.1.2.2.2.1 (u - 4) (by omega) (by omega)).2.1.2 ?_
    cases e : uA (s 3 (u - 4)) v with
    | true => exact ⟨fun z => absurd z (by decide), fun _ => model _ (fun y => absurd ⟨by omega, z2⟩ y) (fun _ y => absurd ⟨by omega, by omega⟩ y) (fun _ _ y => absurd (by omega) y) (fun _ _ _ y => absurd y (by rw [e]; simp; omega)) (fun _ _ _ _ => rfl) (fun _ y => absurd y (by omega)) (fun y => absurd y (by omega))⟩
    | false => exact ⟨fun _ => model _ (fun y => absurd ⟨by omega, z2⟩ y) (fun _ y => absurd ⟨by omega, by omega⟩ y) (fun _ _ y => absurd (by omega) y) (fun _ _ _ _ => rfl) (fun _ _ _ y => absurd y (by rw [e]; decide)) (fun _ y => absurd y (by omega)) (fun y => absurd y (by omega)), fun z => absurd rfl z⟩
  · rintro r2 s2 ⟨rfl, rfl⟩
    refine i228 (btn_lt64 _ (by omega)) (by omega) ?_
    rw [pop_btn _ (by omega)]
    exact model _ (fun y => absurd ⟨by omega, z2⟩ y) (fun _ y => absurd ⟨by omega, by omega⟩ y) (fun _ y => absurd y.1 z5) (fun _ y => absurd y.1 z5) (fun _ y => absurd y.1 z5) (fun y => absurd y (by omega)) (fun _ _ => rfl)
