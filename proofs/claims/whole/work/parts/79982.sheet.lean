/-! sheet -/
theorem vS.all {s : Pl} (h : ∀ t : Nat, t < 4 → vS1 s t) : vS s := ⟨h 0 (by decide), h 1 (by decide), h 2 (by decide), h 3 (by decide)⟩
theorem vS.at {s : Pl} (h : vS s) {t : Nat} (ht : t < 4) : vS1 s t := by
  have : t = 0 ∨ t = 1 ∨ t = 2 ∨ t = 3 := by omega
  rcases this with rfl | rfl | rfl | rfl
  · exact h.1
  · exact h.2.1
  · exact h.2.2.1
  · exact h.2.2.2
theorem sh46 : ∀ t, t < 4 → zsh (46 + 2 * t) = (20, 40) := by decide
variable {xs : Nat → Int} {L : Nat} {d : Nat} {s : Pl}
theorem i221 {v : Int} {P : Int → Pl → Prop} (hd : 2 ≤ d) (h : 0 ≤ v ∧ v < 4 → P 1 s) (h0 : ¬ (0 ≤ v ∧ v < 4) → P 0 s) : Ev xs L T0 106 d 221 [it v] s (qi P) :=
  e221 (by omega) (f221_0 (i132 (by omega) (fun q => ⟨Or.inr rfl, h (by omega)⟩) (fun q => ⟨Or.inl rfl, h0 (by omega)⟩)))
theorem i67 {t : Nat} {v1 v2 : Int} {P : Pl → Prop} (hd : 2 ≤ d) (ht : t < 4) (h : ∀ S : Pl, (∀ (c : Nat) (i : Int), ¬ (c = 45 + 2 * t ∧ (i = 0 ∨ i = 1)) → c ≠ 46 + 2 * t → S c i = s c i) → S (45 + 2 * t) 0 = v1 → (v1 ≠ -1 → S (45 + 2 * t) 1 = v2) → (∀ i : Int, 0 ≤ i → i < 40 → S (46 + 2 * t) i = 0) → P S) : Ev xs L T0 106 d 67 [rf (45 + 2 * t + 1), it v1, it v2] s (qv P) := by
  have go : ∀ v : Int, (v1 ≠ -1 → v = v2) → Fr xs L T0 106 (d - 1) 67 16 [some (rf (45 + 2 * t + 1)), some (it v1), some (it v2)] [it v, rf (45 + 2 * t + 1)] (zup s (45 + 2 * t) 0 v1) (qv P) := fun v hv => f67_16 ht ht (i238 (Na := 40) (by omega) (sh46 t ht) (by omega) (by decide) fun S g1 g2 => h S (fun c i q1 q2 => by rw [g2 c q2, zg, if_neg (by omega), zg, if_neg (by omega)]) (by rw [g2 _ (by omega), zg, if_neg (by omega), zg, if_pos ⟨rfl, rfl⟩]) (fun q => by rw [g2 _ (by omega), zg, if_pos ⟨rfl, rfl⟩]; exact hv q) g1)
  exact e67 (by omega) (f67_0 ht ⟨fun _ => go v2 (fun _ => rfl), fun z => go 0 (fun q => absurd q z)⟩)
theorem l222 {t : Nat} {v2 v3 : Int} {s0 : Pl} {P : Int → Pl → Prop} (ht : t < 4) (h3 : 0 ≤ v3 ∧ v3 ≤ 40) (h : ∀ S : Pl, (∀ (c : Nat) (i : Int), ¬ (c = 104 ∧ 40 * (t : Int) ≤ i ∧ i < 40 * (t : Int) + v3) → S c i = s0 c i) → (∀ i : Int, 0 ≤ i → i < v3 → S 104 (40 * (t : Int) + i) = 0) → P 1 S) : ∀ (j k : Nat) (S : Pl), (k : Int) + (j : Nat) = v3 → (∀ (c : Nat) (i : Int), ¬ (c = 104 ∧ 40 * (t : Int) ≤ i ∧ i < 40 * (t : Int) + (k : Nat)) → S c i = s0 c i) → (∀ i : Int, 0 ≤ i → i < (k : Nat) → S 104 (40 * (t : Int) + i) = 0) → Fr xs L T0 106 d 222 66 [some (rf 73), some (it (t : Nat)), some (it v2), some (it v3), some (it (k : Nat))] [] S (qi P) := by
  intro j
  induction j with
  | zero =>
    intro k S hk g1 g2
    have e : v3 = (k : Nat) := by omega
    subst e
    exact f222_66 ⟨fun _ => h S g1 g2, fun z => absurd (by omega) z⟩
  | succ j ih =>
    intro k S hk g1 g2
    have zk : ∀ _ : Unit, zw ((k : Nat) + 1) = ((k + 1 : Nat) : Int) := fun _ => by rw [zw_id (by omega) (by omega)]; omega
    have zt : ∀ _ : Unit, zw (zw (40 * (t : Nat)) + (k : Nat)) = 40 * (t : Int) + (k : Nat) := fun _ => by rw [zw_id (x := 40 * (t : Nat)) (by omega) (by omega), zw_id (by omega) (by omega)]
    refine f222_66 ⟨fun z => absurd z (by omega), fun _ => ?_⟩
    rw [zt (), zk ()]
    refine ⟨by omega, ih (k + 1) _ (by omega) (fun c i q => by rw [zg, if_neg (by omega)]; exact g1 c i (by omega)) (fun i a b => ?_)⟩
    rw [zg]
    by_cases e : i = (k : Nat)
    · subst e; rw [if_pos ⟨rfl, rfl⟩]
    · rw [if_neg (by omega)]; exact g2 i a (by omega)
/-- sheet -/
theorem J117 {u v w : Int} (hd : 8 ≤ d) (hI : Inv s) : Ev xs L T0 106 d 117 [rf 1, it u, it v, it w] s (qi fun r s1 => Ev xs L T0 106 d 222 [rf 73, it u, it v, it w] s1 (qi fun r2 s2 => r2 = r ∧ Inv s2)) := by
  have bad2 : ¬ ((0 ≤ u ∧ u < 4) ∧ (-1 ≤ v ∧ v ≤ 2) ∧ (v ≠ -1 → w ≤ 40)) → Ev xs L T0 106 d 222 [rf 73, it u, it v, it w] s (qi fun r2 s2 => r2 = -2 ∧ Inv s2) := fun q => e222 (by omega) (f222_0 (i221 (by omega) (fun h1 => ⟨fun y => absurd y (by decide), fun _ => i132 (by omega) (fun h2 => ⟨fun _ => ⟨fun h3 => ⟨fun h4 => absurd ⟨h1, h2, fun _ => h4⟩ q, fun _ => ⟨rfl, hI⟩⟩, fun h3 => absurd ⟨h1, h2, fun y => absurd y h3⟩ q⟩, fun y => absurd (by decide) y⟩) (fun _ => ⟨fun y => absurd rfl y, fun _ => ⟨rfl, hI⟩⟩)⟩) (fun _ => ⟨fun _ => ⟨rfl, hI⟩, fun y => absurd rfl y⟩)))
  refine e117 (by omega) (f117_0 (i128 (by omega) (fun h1 => ⟨fun y => absurd y (by decide), fun _ => ⟨fun z => bad2 (by omega), fun z1 => ⟨fun z => bad2 (by omega), fun z2 => ?_⟩⟩⟩) (fun q => ⟨fun _ => bad2 (fun y => q y.1), fun y => absurd rfl y⟩)))
  obtain ⟨t, rfl⟩ : ∃ t : Nat, u = (t : Nat) := ⟨u.toNat, by omega⟩
  have ht : t < 4 := by omega
  have fin : ∀ S : Pl, (∀ (c : Nat) (i : Int), ¬ (c = 45 + 2 * t ∧ (i = 0 ∨ i = 1) ∨ c = 46 + 2 * t ∨ (c = 102 ∨ c = 103) ∧ i = (t : Nat) ∨ c = 104 ∧ 40 * (t : Int) ≤ i ∧ i < 40 * (t : Int) + 40) → S c i = s c i) → (∀ i : Int, 0 ≤ i → i < 40 → S (46 + 2 * t) i = 0) → vS1 S t → Inv S := by
    intro S ne e0 hv
    refine ⟨JJ.chg hI.1 ne (Or.inr (ne 0 9 (by omega))) (Or.inl fun c i m => by unfold mL at m; omega) (Or.inl fun c i m => by unfold mH at m; omega) (Or.inl fun c i m => by omega) (Or.inl fun c i m => by unfold mP at m; omega) (Or.inl fun c i m => by unfold mM at m; omega) (Or.inl fun c i m => by unfold mT at m; omega) (Or.inl fun c i m => by unfold mK at m; omega) (Or.inr (vS.all fun t2 ht2 => ?_)) (Or.inl fun c i m => by unfold mX at m; omega) (Or.inr ?_) (Or.inl fun c i m => by omega), hI.2.keep (fun c hc => funext fun i => ne c i (by omega)) (ne 0 9 (by omega))⟩
    · by_cases e : t2 = t
      · rw [e]; exact hv
      · have := (hI.1.2.2.2.2.2.2.2.1).at ht2
        unfold vS1 at *
        rw [ne 102 _ (by omega), ne (45 + 2 * t2) 0 (by omega), ne 103 _ (by omega), ne (45 + 2 * t2) 1 (by omega)]
        refine ⟨this.1, this.2.1, this.2.2.1, fun q => ⟨(this.2.2.2 q).1, (this.2.2.2 q).2.1, (this.2.2.2 q).2.2.1, fun i q1 q2 => ?_⟩⟩
        have h40 := (this.2.2.2 q).2.2.1
        rw [ne 104 _ (by omega), ne (46 + 2 * t2) i (by omega)]
        exact (this.2.2.2 q).2.2.2 i q1 q2
    · obtain ⟨u1, u2, u3, u4, u5⟩ := hI.1.2.2.2.2.2.2.2.2.2.1
      refine ⟨fun i hi => by rw [ne 87 _ (by omega)]; exact u1 i hi, fun i hi => by rw [ne 88 _ (by omega)]; exact u2 i hi, fun a b ha hb => by rw [ne 9 _ (by omega), ne 9 _ (by omega)]; exact u3 a b ha hb, fun q a b ha hb => ?_, fun q hq i q1 q2 => ?_⟩
      · rw [ne 0 2 (by omega)] at q
        rw [ne 18 _ (by omega), ne 18 _ (by omega)]; exact u4 q a b ha hb
      · by_cases e : q = t
        · subst e; rw [e0 i q1 q2]; omega
        · rw [ne _ i (by omega)]; exact u5 q hq i q1 q2
  have q43 : (v ≠ -1 → 0 ≤ w ∧ w ≤ 40) → Fr xs L T0 106 (d - 1) 117 43 [some (rf 1), some (it (t : Nat)), some (it v), some (it w)] [] s (qi fun r s1 => Ev xs L T0 106 d 222 [rf 73, it (t : Nat), it v, it w] s1 (qi fun r2 s2 => r2 = r ∧ Inv s2)) := by
    intro hw
    refine f117_43 ⟨by omega, fun tq e1 e2 => ?_⟩
    have etq : tq = t := by omega
    subst etq
    refine i67 (by omega) e2 fun S g1 g2 g3 g4 => ?_
    refine e222 (by omega) (f222_0 (i221 (by omega) (fun _ => ⟨fun y => absurd y (by decide), fun _ => i132 (by omega) (fun _ => ⟨fun _ => ⟨fun h3 => ⟨fun h4 => ⟨fun h5 => ⟨by omega, by omega, ?_⟩, fun y => absurd (hw h3).1 y⟩, fun y => absurd (hw h3).2 y⟩, fun h3 => ⟨by omega, rfl, ?_⟩⟩, fun y => absurd (by decide) y⟩) (fun y => absurd (by omega) y)⟩) (fun y => absurd h1 y)))
    · refine l222 e2 ⟨h5, h4⟩ (fun S2 k1 k2 => ⟨rfl, ?_⟩) w.toNat 0 _ (by omega) (fun _ _ _ => rfl) (fun i a b => absurd b (by omega))
      refine fin S2 (fun c i q => ?_) (fun i q1 q2 => ?_) ?_
      · rw [k1 c i (by omega), zg, if_neg (by omega), zg, if_neg (by omega)]; exact g1 c i (by omega) (by omega)
      · rw [k1 _ i (by omega), zg, if_neg (by omega), zg, if_neg (by omega)]; exact g4 i q1 q2
      · have x100 : S2 102 (tq : Nat) = v := by rw [k1 102 _ (by omega), zg, if_neg (by omega), zg, if_pos ⟨rfl, rfl⟩]
        have x101 : S2 103 (tq : Nat) = w := by rw [k1 103 _ (by omega), zg, if_pos ⟨rfl, rfl⟩]
        have x0 : S2 (45 + 2 * tq) 0 = v := by rw [k1 _ 0 (by omega), zg, if_neg (by omega), zg, if_neg (by omega)]; exact g2
        have x1 : S2 (45 + 2 * tq) 1 = w := by rw [k1 _ 1 (by omega), zg, if_neg (by omega), zg, if_neg (by omega)]; exact g3 h3
        unfold vS1
        rw [x100, x101, x0, x1]
        refine ⟨rfl, by omega, by omega, fun _ => ⟨rfl, h5, h4, fun i q1 q2 => ?_⟩⟩
        rw [k2 i q1 q2, k1 _ i (by omega), zg, if_neg (by omega), zg, if_neg (by omega)]
        exact (g4 i q1 (by omega)).symm
    · have h3 := Classical.not_not.mp h3
      refine fin _ (fun c i q => ?_) (fun i q1 q2 => ?_) ?_
      · rw [zg, if_neg (by omega)]; exact g1 c i (by omega) (by omega)
      · rw [zg, if_neg (by omega)]; exact g4 i q1 q2
      · have x100 : zup S 102 (tq : Nat) (-1) 102 (tq : Nat) = -1 := by rw [zg, if_pos ⟨rfl, rfl⟩]
        have x0 : zup S 102 (tq : Nat) (-1) (45 + 2 * tq) 0 = -1 := by rw [zg, if_neg (by omega), g2]; exact h3
        unfold vS1
        rw [x100, x0]
        exact ⟨rfl, by omega, by omega, fun y => absurd rfl y⟩
  have bad14 : v ≠ -1 → w < 0 → Ev xs L T0 106 d 222 [rf 73, it (t : Nat), it v, it w] s (qi fun r2 s2 => r2 = -14 ∧ Inv s2) := fun q1 q2 => e222 (by omega) (f222_0 (i221 (by omega) (fun _ => ⟨fun y => absurd y (by decide), fun _ => i132 (by omega) (fun _ => ⟨fun _ => ⟨fun h3 => ⟨fun h4 => ⟨fun h5 => absurd h5 (by omega), fun _ => ⟨rfl, hI⟩⟩, fun y => absurd (by omega) y⟩, fun h3 => absurd q1 h3⟩, fun y => absurd (by decide) y⟩) (fun y => absurd (by omega) y)⟩) (fun y => absurd h1 y)))
  have q31 : (v ≠ -1 → w ≤ 40) → Fr xs L T0 106 (d - 1) 117 31 [some (rf 1), some (it (t : Nat)), some (it v), some (it w)] [] s (qi fun r s1 => Ev xs L T0 106 d 222 [rf 73, it (t : Nat), it v, it w] s1 (qi fun r2 s2 => r2 = r ∧ Inv s2)) := fun hw => f117_31 ⟨fun y => q43 (fun y2 => absurd y y2), fun y => ⟨fun y2 => q43 (fun y3 => ⟨y2, hw y3⟩), fun y2 => bad14 y (by omega)⟩⟩
  exact ⟨fun y => q31 (fun y2 => absurd y y2), fun y => ⟨fun y2 => q31 (fun _ => y2), fun y2 => bad2 (fun q => y2 (q.2.2 y))⟩⟩
