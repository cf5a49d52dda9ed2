/-! copy -/
variable {xs : Nat → Int} {L : Nat} {d : Nat} {s : Pl}
theorem i69 {t : Nat} {v w : Int} {P : Int → Pl → Prop} (hd : 1 ≤ d) (ht : t < 4) (h40 : 0 ≤ s (45 + 2 * t) 1 ∧ s (45 + 2 * t) 1 ≤ 40) (h : 0 ≤ v ∧ 0 ≤ w ∧ v + w ≤ s (45 + 2 * t) 1 → P 1 s) (h0 : ¬ (0 ≤ v ∧ 0 ≤ w ∧ v + w ≤ s (45 + 2 * t) 1) → P 0 s) : Ev xs L T0 106 d 69 [rf (45 + 2 * t + 1), it v, it w] s (qi P) := by
  refine e69 hd (f69_0 ht ⟨fun _ => h0 (by omega), fun z1 => ⟨fun _ => h0 (by omega), fun z2 => ⟨fun _ => h0 (by omega), fun z3 => ?_⟩⟩⟩)
  rw [zw_id (by omega) (by omega)]
  exact ⟨fun _ => h0 (by omega), fun _ => h (by omega)⟩
theorem zlc_le {a b : Int} : zlcmp a b ≤ 0 ↔ a ≤ b := by
  unfold zlcmp
  split
  · omega
  · split <;> omega
theorem zlc_lt {a b : Int} : zlcmp a b < 0 ↔ a < b := by
  unfold zlcmp
  split
  · omega
  · split <;> omega
/-- copy, the reference's -/
theorem l224b {a b : Nat} {v2 v4 v5 : Int} {s0 : Pl} {P : Int → Pl → Prop} (hb : b < 4) (h4 : 0 ≤ v4) (h5 : v4 + v5 ≤ 40) (h : ∀ S : Pl, (∀ (c : Nat) (i : Int), ¬ (c = 104 ∧ 40 * (b : Int) + v4 ≤ i ∧ i < 40 * (b : Int) + v4 + v5) → S c i = s0 c i) → (∀ i : Int, 0 ≤ i → i < v5 → S 104 (40 * (b : Int) + v4 + i) = s0 105 i) → P v5 S) : ∀ (j k : Nat) (S : Pl), (k : Int) + (j : Nat) = v5 → (∀ (c : Nat) (i : Int), ¬ (c = 104 ∧ 40 * (b : Int) + v4 ≤ i ∧ i < 40 * (b : Int) + v4 + (k : Nat)) → S c i = s0 c i) → (∀ i : Int, 0 ≤ i → i < (k : Nat) → S 104 (40 * (b : Int) + v4 + i) = s0 105 i) → Fr xs L T0 106 d 224 148 [some (rf 73), some (it (a : Nat)), some (it v2), some (it (b : Nat)), some (it v4), some (it v5), some (it (k : Nat))] [] S (qi P) := by
  intro j
  induction j with
  | zero =>
    intro k S hk g1 g2
    have e : v5 = (k : Nat) := by omega
    subst e
    exact f224_148 ⟨fun _ => h S g1 g2, fun z => absurd (by omega) z⟩
  | succ j ih =>
    intro k S hk g1 g2
    have zk : ∀ _ : Unit, zw ((k : Nat) + 1) = ((k + 1 : Nat) : Int) := fun _ => by rw [zw_id (by omega) (by omega)]; omega
    have zt : ∀ _ : Unit, zw (zw (zw (40 * (b : Nat)) + v4) + (k : Nat)) = 40 * (b : Int) + v4 + (k : Nat) := fun _ => by rw [zw_id (x := 40 * (b : Nat)) (by omega) (by omega), zw_id (x := 40 * (b : Nat) + v4) (by omega) (by omega), zw_id (by omega) (by omega)]
    refine f224_148 ⟨fun z => absurd z (by omega), fun _ => ?_⟩
    rw [zt (), zk (), g1 105 _ (by omega)]
    refine ⟨by omega, by omega, ih (k + 1) _ (by omega) (fun c i q => by rw [zg, if_neg (by omega)]; exact g1 c i (by omega)) (fun i a b => ?_)⟩
    rw [zg]
    by_cases e : i = (k : Nat)
    · subst e; rw [if_pos ⟨rfl, rfl⟩]
    · rw [if_neg (by omega)]; exact g2 i a (by omega)
theorem l224a {a b : Nat} {v2 v4 v5 : Int} {s0 : Pl} {P : Int → Pl → Prop} (ha : a < 4) (h2 : 0 ≤ v2) (h5 : v2 + v5 ≤ 40) (h : ∀ S : Pl, (∀ (c : Nat) (i : Int), c ≠ 105 → S c i = s0 c i) → (∀ i : Int, 0 ≤ i → i < v5 → S 105 i = s0 104 (40 * (a : Int) + v2 + i)) → Fr xs L T0 106 d 224 148 [some (rf 73), some (it (a : Nat)), some (it v2), some (it (b : Nat)), some (it v4), some (it v5), some (it ((0 : Nat) : Int))] [] S (qi P)) : ∀ (j k : Nat) (S : Pl), (k : Int) + (j : Nat) = v5 → (∀ (c : Nat) (i : Int), c ≠ 105 → S c i = s0 c i) → (∀ i : Int, 0 ≤ i → i < (k : Nat) → S 105 i = s0 104 (40 * (a : Int) + v2 + i)) → Fr xs L T0 106 d 224 111 [some (rf 73), some (it (a : Nat)), some (it v2), some (it (b : Nat)), some (it v4), some (it v5), some (it (k : Nat))] [] S (qi P) := by
  intro j
  induction j with
  | zero =>
    intro k S hk g1 g2
    have e : v5 = (k : Nat) := by omega
    subst e
    exact f224_111 ⟨fun _ => h S g1 g2, fun z => absurd (by omega) z⟩
  | succ j ih =>
    intro k S hk g1 g2
    have zk : ∀ _ : Unit, zw ((k : Nat) + 1) = ((k + 1 : Nat) : Int) := fun _ => by rw [zw_id (by omega) (by omega)]; omega
    have zt : ∀ _ : Unit, zw (zw (zw (40 * (a : Nat)) + v2) + (k : Nat)) = 40 * (a : Int) + v2 + (k : Nat) := fun _ => by rw [zw_id (x := 40 * (a : Nat)) (by omega) (by omega), zw_id (x := 40 * (a : Nat) + v2) (by omega) (by omega), zw_id (by omega) (by omega)]
    refine f224_111 ⟨fun z => absurd z (by omega), fun _ => ?_⟩
    rw [zt (), zk (), g1 104 _ (by omega)]
    refine ⟨by omega, by omega, ih (k + 1) _ (by omega) (fun c i q => by rw [zg, if_neg (by omega)]; exact g1 c i q) (fun i a b => ?_)⟩
    rw [zg]
    by_cases e : i = (k : Nat)
    · subst e; rw [if_pos ⟨rfl, rfl⟩]
    · rw [if_neg (by omega)]; exact g2 i a (by omega)
/-- copy -/
theorem J119 {u v2 u2 v4 v5 : Int} (hd : 8 ≤ d) (r2 : v2 < 2147483648) (r4 : v4 < 2147483648) (r5 : v5 < 2147483648) (hI : Inv s) : Ev xs L T0 106 d 119 [rf 1, it u, it v2, it u2, it v4, it v5] s (qi fun r s1 => Ev xs L T0 106 d 224 [rf 73, it u, it v2, it u2, it v4, it v5] s1 (qi fun r2 s2 => r2 = r ∧ Inv s2)) := by
  refine e119 (by omega) (f119_0 (i128 (by omega) (fun h1 => ⟨fun y => absurd y (by decide), fun _ => i128 (by omega) (fun h2 => ⟨fun _ => ⟨h1, fun a ea ha => ⟨h2, fun b eb hb => ?_⟩⟩, fun y => absurd (by decide) y⟩) (fun h2 => ⟨fun y => absurd rfl y, fun _ => ?_⟩)⟩) (fun h1 => ⟨fun _ => ?_, fun y => absurd rfl y⟩)))
  · subst ea
    subst eb
    obtain ⟨a1, a2, a3, a4⟩ := (hI.1.2.2.2.2.2.2.2.1).at ha
    obtain ⟨b1, b2, b3, b4⟩ := (hI.1.2.2.2.2.2.2.2.1).at hb
    -- the reference, kinds that fit
    have mk : ∀ P : Int → Pl → Prop, ∀ s1 : Pl, (s1 102 (a : Nat) < 0 → P (-11) s1) → (¬ s1 102 (a : Nat) < 0 → s1 102 (b : Nat) < 0 → P (-11) s1) → (¬ s1 102 (a : Nat) < 0 → ¬ s1 102 (b : Nat) < 0 → s1 102 (a : Nat) ≠ s1 102 (b : Nat) → P (-13) s1) → (¬ s1 102 (a : Nat) < 0 → ¬ s1 102 (b : Nat) < 0 → s1 102 (a : Nat) = s1 102 (b : Nat) → (¬ ((0 ≤ v2 ∧ 0 ≤ v5 ∧ v2 + v5 ≤ s1 103 (a : Nat)) ∧ (0 ≤ v4 ∧ 0 ≤ v5 ∧ v4 + v5 ≤ s1 103 (b : Nat))) → P (-12) s1) ∧ ((0 ≤ v2 ∧ 0 ≤ v5 ∧ v2 + v5 ≤ s1 103 (a : Nat)) → (0 ≤ v4 ∧ 0 ≤ v5 ∧ v4 + v5 ≤ s1 103 (b : Nat)) → Fr xs L T0 106 (d - 1) 224 111 [some (rf 73), some (it (a : Nat)), some (it v2), some (it (b : Nat)), some (it v4), some (it v5), some (it 0)] [] s1 (qi P))) → Ev xs L T0 106 d 224 [rf 73, it (a : Nat), it v2, it (b : Nat), it v4, it v5] s1 (qi P) := by
      intro P s1 c1 c2 c3 c4
      refine e224 (by omega) (f224_0 (i221 (by omega) (fun _ => ⟨fun y => absurd y (by decide), fun _ => i221 (by omega) (fun _ => ⟨fun _ => ⟨h1, fun k1 => c1 k1, fun k1 => ⟨h2, fun k2 => ⟨h1, h2, fun k3 => ?_, fun k3 => c3 k1 (by omega) k3⟩, fun k2 => c2 k1 (by omega)⟩⟩, fun y => absurd (by decide) y⟩) (fun y => absurd h2 y)⟩) (fun y => absurd h1 y)))
      obtain ⟨d1, d2⟩ := c4 k1 (by omega) k3
      refine ⟨fun y => d1 (by omega), fun y1 => ⟨fun y => d1 (by omega), fun y2 => ⟨fun y => d1 (by omega), fun y3 => ?_⟩⟩⟩
      rw [zl_id (x := v2 + v5) (by omega) (by omega), zl_id (x := v4 + v5) (by omega) (by omega)]
      refine ⟨h1, fun y => d1 (fun q => ?_), fun y4 => ⟨h2, fun y5 => d2 ?_ ?_, fun y => d1 (fun q => y (zlc_le.mpr q.2.2.2))⟩⟩
      · have := zlc_le.mpr q.1.2.2; omega
      · exact ⟨by omega, by omega, zlc_le.mp (by omega)⟩
      · exact ⟨by omega, by omega, zlc_le.mp y5⟩
    refine ⟨fun k1 => mk _ s (fun _ => ⟨rfl, hI⟩) (fun y => absurd (by omega) y) (fun y => absurd (by omega) y) (fun y => absurd (by omega) y), fun k1 => ⟨fun k2 => ⟨fun k3 => ?_, fun k3 => mk _ s (fun y => absurd y (by omega)) (fun _ y => absurd y (by omega)) (fun _ _ _ => ⟨rfl, hI⟩) (fun _ _ y => absurd y (by omega))⟩, fun k2 => mk _ s (fun y => absurd y (by omega)) (fun _ _ => ⟨rfl, hI⟩) (fun _ y => absurd (by omega) y) (fun _ y => absurd (by omega) y)⟩⟩
    obtain ⟨p1, p2, p3, p4⟩ := a4 (by omega)
    obtain ⟨q1, q2, q3, q4⟩ := b4 (by omega)
    have bad : ¬ ((0 ≤ v2 ∧ 0 ≤ v5 ∧ v2 + v5 ≤ s 103 (a : Nat)) ∧ (0 ≤ v4 ∧ 0 ≤ v5 ∧ v4 + v5 ≤ s 103 (b : Nat))) → Ev xs L T0 106 d 224 [rf 73, it (a : Nat), it v2, it (b : Nat), it v4, it v5] s (qi fun r2 s2 => r2 = -12 ∧ Inv s2) := fun q => mk _ s (fun y => absurd y (by omega)) (fun _ y => absurd y (by omega)) (fun _ _ y => absurd (by omega) y) (fun _ _ _ => ⟨fun _ => ⟨rfl, hI⟩, fun y1 y2 => absurd ⟨y1, y2⟩ q⟩)
    refine i69 (by omega) ha (by omega) (fun m1 => ⟨fun y => absurd y (by decide), fun _ => i69 (by omega) hb (by omega) (fun m2 => ⟨fun _ => ⟨by omega, ?_⟩, fun y => absurd (by decide) y⟩) (fun m2 => ⟨fun y => absurd rfl y, fun _ => bad (by omega)⟩)⟩) (fun m1 => ⟨fun _ => bad (by omega), fun y => absurd rfl y⟩)
    have eC : ∀ (c : Nat) (i : Int), zcopy s (46 + 2 * a) v2 (46 + 2 * b) v4 v5 c i = if c = 46 + 2 * b ∧ v4 ≤ i ∧ i < v4 + v5 then s (46 + 2 * a) (v2 + (i - v4)) else s c i := fun c i => zc_at s _ _ _ _ _ c i
    generalize zcopy s (46 + 2 * a) v2 (46 + 2 * b) v4 v5 = S at *
    have n1 : ∀ (c : Nat) (i : Int), 102 ≤ c → S c i = s c i := fun c i q => by rw [eC, if_neg (by omega)]
    refine mk _ S (fun y => absurd y (by rw [n1 _ _ (by omega)]; omega)) (fun _ y => absurd y (by rw [n1 _ _ (by omega)]; omega)) (fun _ _ y => absurd (by rw [n1 _ _ (by omega), n1 _ _ (by omega)]; omega) y) (fun _ _ _ => ⟨fun y => absurd (by rw [n1 _ _ (by omega), n1 _ _ (by omega)]; omega) y, fun _ _ => ?_⟩)
    refine l224a (b := b) ha (by omega) (by omega) (fun S2 g1 g2 => l224b hb (by omega) (by omega) (fun S3 g3 g4 => ⟨rfl, ?_⟩) v5.toNat 0 S2 (by omega) (fun _ _ _ => rfl) (fun i a b => absurd b (by omega))) v5.toNat 0 S (by omega) (fun _ _ _ => rfl) (fun i a b => absurd b (by omega))
    have e46 : ∀ i : Int, S3 (46 + 2 * b) i = if v4 ≤ i ∧ i < v4 + v5 then s (46 + 2 * a) (v2 + (i - v4)) else s (46 + 2 * b) i := fun i => by
      rw [g3 _ i (by omega), g1 _ i (by omega), eC]
      by_cases e : v4 ≤ i ∧ i < v4 + v5
      · rw [if_pos ⟨rfl, e⟩, if_pos e]
      · rw [if_neg (fun q => e q.2), if_neg e]
    have hW := hI.1.2.2.2.2.2.2.2.2.2.1.2.2.2.2
    refine hI.sht hb (fun c i q => by rw [g3 c i (by omega), g1 c i (by omega), eC, if_neg (by omega)]) (fun i w1 w2 => ?_) (fun i w1 w2 w3 => ?_)
    · rw [e46]
      split
      · exact hW a ha _ (by omega) (by omega)
      · exact hW b hb i w1 w2
    · rw [e46]
      by_cases e : v4 ≤ i ∧ i < v4 + v5
      · rw [if_pos e]
        have x1 := g4 (i - v4) (by omega) (by omega)
        rw [show 40 * (b : Int) + v4 + (i - v4) = 40 * (b : Int) + i from by omega] at x1
        rw [x1, g2 (i - v4) (by omega) (by omega), n1 104 _ (by omega)]
        have x2 := p4 (v2 + (i - v4)) (by omega) (by omega)
        rw [← x2]
        congr 1
        omega
      · rw [if_neg e, g3 104 _ (by omega), g1 104 _ (by omega), n1 104 _ (by omega)]
        exact q4 i w1 w2
  · exact e224 (by omega) (f224_0 (i221 (by omega) (fun _ => ⟨fun y => absurd y (by decide), fun _ => i221 (by omega) (fun y => absurd y h2) (fun _ => ⟨fun y => absurd rfl y, fun _ => ⟨rfl, hI⟩⟩)⟩) (fun y => absurd h1 y)))
  · exact e224 (by omega) (f224_0 (i221 (by omega) (fun y => absurd y h1) (fun _ => ⟨fun _ => ⟨rfl, hI⟩, fun y => absurd rfl y⟩)))
