/-! cell -/
theorem zb8_rng (x : Int) : -2147483648 ≤ zb8 x ∧ zb8 x < 2147483648 := ⟨Int32.le_toInt _, Int32.toInt_lt _⟩
theorem zs16_rng (x : Int) : -2147483648 ≤ zs16 x ∧ zs16 x < 2147483648 := ⟨Int32.le_toInt _, Int32.toInt_lt _⟩
/-- what a sheet's change leaves -/
theorem Inv.sht {s S : Pl} {t : Nat} (hI : Inv s) (ht : t < 4) (ne : ∀ (c : Nat) (i : Int), ¬ (c = 46 + 2 * t ∨ c = 105 ∨ c = 104 ∧ 40 * (t : Int) ≤ i ∧ i < 40 * (t : Int) + 40) → S c i = s c i) (hr : ∀ i : Int, 0 ≤ i → i < 40 → -2147483648 ≤ S (46 + 2 * t) i ∧ S (46 + 2 * t) i < 2147483648) (hv : ∀ i : Int, 0 ≤ i → i < s 103 (t : Nat) → s 102 (t : Nat) ≠ -1 → S 104 (40 * (t : Int) + i) = S (46 + 2 * t) i) : Inv S := by
  refine ⟨JJ.chg hI.1 ne (Or.inr (ne 0 9 (by omega))) (Or.inl fun c i m => by unfold mL at m; omega) (Or.inl fun c i m => by unfold mH at m; omega) (Or.inl fun c i m => by omega) (Or.inl fun c i m => by unfold mP at m; omega) (Or.inl fun c i m => by unfold mM at m; omega) (Or.inl fun c i m => by unfold mT at m; omega) (Or.inl fun c i m => by unfold mK at m; omega) (Or.inr (vS.all fun t2 ht2 => ?_)) (Or.inl fun c i m => by unfold mX at m; omega) (Or.inr ?_) (Or.inl fun c i m => by omega), hI.2.keep (fun c hc => funext fun i => ne c i (by omega)) (ne 0 9 (by omega))⟩
  · have := (hI.1.2.2.2.2.2.2.2.1).at ht2
    unfold vS1 at *
    rw [ne 102 _ (by omega), ne (45 + 2 * t2) 0 (by omega), ne 103 _ (by omega), ne (45 + 2 * t2) 1 (by omega)]
    refine ⟨this.1, this.2.1, this.2.2.1, fun q => ⟨(this.2.2.2 q).1, (this.2.2.2 q).2.1, (this.2.2.2 q).2.2.1, fun i q1 q2 => ?_⟩⟩
    have h40 := (this.2.2.2 q).2.2.1
    by_cases e : t2 = t
    · subst e; exact hv i q1 q2 q
    · rw [ne 104 _ (by omega), ne (46 + 2 * t2) i (by omega)]
      exact (this.2.2.2 q).2.2.2 i q1 q2
  · obtain ⟨u1, u2, u3, u4, u5⟩ := hI.1.2.2.2.2.2.2.2.2.2.1
    refine ⟨fun i hi => by rw [ne 87 _ (by omega)]; exact u1 i hi, fun i hi => by rw [ne 88 _ (by omega)]; exact u2 i hi, fun a b ha hb => by rw [ne 9 _ (by omega), ne 9 _ (by omega)]; exact u3 a b ha hb, fun q a b ha hb => ?_, fun q hq i q1 q2 => ?_⟩
    · rw [ne 0 2 (by omega)] at q
      rw [ne 18 _ (by omega), ne 18 _ (by omega)]; exact u4 q a b ha hb
    · by_cases e : q = t
      · subst e; exact hr i q1 q2
      · rw [ne _ i (by omega)]; exact u5 q hq i q1 q2
variable {xs : Nat → Int} {L : Nat} {d : Nat} {s : Pl}
theorem i68 {t : Nat} {v : Int} {P : Int → Pl → Prop} (hd : 1 ≤ d) (ht : t < 4) (h40 : s (45 + 2 * t) 1 ≤ 40) (h : 0 ≤ v ∧ v < s (45 + 2 * t) 1 → P 1 s) (h0 : ¬ (0 ≤ v ∧ v < s (45 + 2 * t) 1) → P 0 s) : Ev xs L T0 106 d 68 [rf (45 + 2 * t + 1), it v] s (qi P) :=
  e68 hd (f68_0 ht ⟨fun _ => h0 (by omega), fun _ => ⟨fun _ => h0 (by omega), fun _ => ⟨fun _ => h0 (by omega), fun _ => h (by omega)⟩⟩⟩)
/-- cell -/
theorem J118 {u v w : Int} (hd : 8 ≤ d) (hw : -2147483648 ≤ w ∧ w < 2147483648) (hI : Inv s) : Ev xs L T0 106 d 118 [rf 1, it u, it v, it w] s (qi fun r s1 => Ev xs L T0 106 d 223 [rf 73, it u, it v, it w] s1 (qi fun r2 s2 => r2 = r ∧ Inv s2)) := by
  refine e118 (by omega) (f118_0 (i128 (by omega) (fun h1 => ⟨fun _ => ⟨h1, fun tq e1 e2 => ?_⟩, fun y => absurd (by decide) y⟩) (fun h1 => ⟨fun y => absurd rfl y, fun _ => e223 (by omega) (f223_0 (i221 (by omega) (fun y => absurd y h1) (fun _ => ⟨fun y => absurd rfl y, fun _ => ⟨rfl, hI⟩⟩)))⟩)))
  subst e1
  have hv := (hI.1.2.2.2.2.2.2.2.1).at e2
  obtain ⟨a1, a2, a3, a4⟩ := hv
  refine ⟨fun hk => ⟨h1, fun tq2 e3 e4 => ?_⟩, fun hk => e223 (by omega) (f223_0 (i221 (by omega) (fun _ => ⟨fun _ => ⟨by omega, fun y => absurd y (by omega), fun _ => ⟨rfl, hI⟩⟩, fun y => absurd (by decide) y⟩) (fun y => absurd h1 y)))⟩
  have e5 : tq2 = tq := by omega
  subst e5
  obtain ⟨b1, b2, b3, b4⟩ := a4 (by omega)
  have zz : ∀ _ : Unit, zw (s 103 (tq2 : Nat) - 1) = s 103 (tq2 : Nat) - 1 := fun _ => zw_id (by omega) (by omega)
  refine i68 (by omega) e2 (by omega) (fun g => ⟨fun _ => ⟨h1, fun tq3 e6 e7 => ?_⟩, fun y => absurd (by decide) y⟩) (fun g => ⟨fun y => absurd rfl y, fun _ => e223 (by omega) (f223_0 (i221 (by omega) (fun _ => ⟨fun _ => ⟨by omega, fun _ => ⟨by omega, by rw [zz ()]; exact i132 (by omega) (fun y => absurd (by omega) g) (fun _ => ⟨fun y => absurd rfl y, fun _ => ⟨rfl, hI⟩⟩)⟩, fun y => absurd (by omega) y⟩, fun y => absurd (by decide) y⟩) (fun y => absurd h1 y)))⟩)
  have e8 : tq3 = tq2 := by omega
  subst e8
  have zt : ∀ _ : Unit, zw (zw (40 * (tq3 : Nat)) + v) = 40 * (tq3 : Int) + v := fun _ => by rw [zw_id (x := 40 * (tq3 : Nat)) (by omega) (by omega), zw_id (by omega) (by omega)]
  have fin : ∀ x : Int, (-2147483648 ≤ x ∧ x < 2147483648) → Inv (zup (zup s (46 + 2 * tq3) v x) 104 (40 * (tq3 : Int) + v) x) := by
    intro x hx
    have e0 : ∀ i : Int, (zup (zup s (46 + 2 * tq3) v x) 104 (40 * (tq3 : Int) + v) x) (46 + 2 * tq3) i = if i = v then x else s (46 + 2 * tq3) i := fun i => by
      rw [zg, if_neg (by omega), zg]
      by_cases e : i = v
      · rw [if_pos ⟨rfl, e⟩, if_pos e]
      · rw [if_neg (fun q => e q.2), if_neg e]
    refine hI.sht e2 (fun c i q => by rw [zg, if_neg (by omega), zg, if_neg (by omega)]) (fun i q1 q2 => ?_) (fun i q1 q2 q3 => ?_)
    · rw [e0]
      split
      · exact hx
      · exact hI.1.2.2.2.2.2.2.2.2.2.1.2.2.2.2 tq3 e2 i q1 q2
    · rw [e0, zg]
      by_cases e : i = v
      · rw [if_pos ⟨rfl, by omega⟩, if_pos e]
      · rw [if_neg (by omega), if_neg e, zg, if_neg (by omega)]
        exact b4 i q1 q2
  have mdl : ∀ x : Int, (s 102 (tq3 : Nat) = 0 → x = zb8 w) → (s 102 (tq3 : Nat) = 1 → x = zs16 w) → (s 102 (tq3 : Nat) = 2 → x = w) → Ev xs L T0 106 d 223 [rf 73, it (tq3 : Nat), it v, it w] (zup s (46 + 2 * tq3) v x) (qi fun r2 s2 => r2 = 1 ∧ Inv s2) := by
    intro x x0 x1 x2
    have hx : -2147483648 ≤ x ∧ x < 2147483648 := by
      by_cases k0 : s 102 (tq3 : Nat) = 0
      · rw [x0 k0]; exact zb8_rng w
      · by_cases k1 : s 102 (tq3 : Nat) = 1
        · rw [x1 k1]; exact zs16_rng w
        · rw [x2 (by omega)]; exact hw
    have n100 : ∀ i : Int, zup s (46 + 2 * tq3) v x 102 i = s 102 i := fun i => by rw [zg, if_neg (by omega)]
    have n101 : ∀ i : Int, zup s (46 + 2 * tq3) v x 103 i = s 103 i := fun i => by rw [zg, if_neg (by omega)]
    have q81 : ∀ y : Int, y = x → Fr xs L T0 106 (d - 1) 223 81 [some (rf 73), some (it (tq3 : Nat)), some (it v), some (it w)] [it y, it (zw ((zw (40 * (tq3 : Nat))) + v)), rf 105] (zup s (46 + 2 * tq3) v x) (qi fun r2 s2 => r2 = 1 ∧ Inv s2) := fun y hy => by
      subst hy
      rw [zt ()]
      exact f223_81 ⟨by omega, rfl, fin y hx⟩
    refine e223 (by omega) (f223_0 (i221 (by omega) (fun _ => ⟨fun _ => ⟨by omega, ?_⟩, fun y => absurd (by decide) y⟩) (fun y => absurd h1 y)))
    simp only [n100, n101]
    rw [zz ()]
    refine ⟨fun _ => ⟨by omega, i132 (by omega) (fun _ => ⟨fun _ => ⟨by omega, ?_⟩, fun y => absurd (by decide) y⟩) (fun y => absurd (by omega) y)⟩, fun y => absurd (by omega) y⟩
    simp only [n100]
    exact ⟨fun k0 => ⟨by omega, fun k1 => q81 w (x2 (by omega)).symm, fun k1 => q81 _ (x1 (by omega)).symm⟩, fun k0 => q81 _ (x0 (by omega)).symm⟩
  refine e71 (by omega) (f71_0 e2 (i68 (by omega) e2 (by omega) (fun _ => ⟨fun y => absurd y (by decide), fun _ => ?_⟩) (fun y => absurd g y)))
  rw [← a1]
  exact ⟨fun k0 => ⟨fun k1 => f71_39 e2 e2 ⟨by omega, mdl _ (fun y => absurd y k0) (fun y => absurd y k1) (fun _ => rfl)⟩, fun k1 => f71_39 e2 e2 ⟨by omega, mdl _ (fun y => absurd y k0) (fun _ => rfl) (fun y => absurd y (by omega))⟩⟩, fun k0 => f71_39 e2 e2 ⟨by omega, mdl _ (fun _ => rfl) (fun y => absurd y (by omega)) (fun y => absurd y (by omega))⟩⟩
