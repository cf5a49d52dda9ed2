/-! chance -/
theorem gcd_step {a b : Nat} : Nat.gcd a b = Nat.gcd b (a % b) := by
  rw [Nat.gcd_comm a b, Nat.gcd_rec b a, Nat.gcd_comm]
noncomputable def hv (w : Pl) (t n x0 seed k p : Nat) : Nat → Nat
  | 0 => 0
  | i + 1 => hv w t n x0 seed k p i + if thV w (dx w t n x0 (seed + i) k) p = true then 1 else 0
theorem hv_le (w : Pl) (t n x0 seed k p : Nat) : ∀ i, hv w t n x0 seed k p i ≤ i := by
  intro i
  induction i with
  | zero => simp [hv]
  | succ i ih => simp only [hv]; split <;> omega
variable {xs : Nat → Int} {L : Nat} {d : Nat} {s : Pl}
theorem l130 {v0 v1 : Int} {P : Int → Pl → Prop} : ∀ (j a b c : Nat) (w5 : Option AV), b ≤ j → b + c ≤ 64 → a < 1000 → P ((Nat.gcd a b : Nat) : Int) s → Fr xs L T0 106 d 130 7 [some (it v0), some (it v1), some (it (a : Nat)), some (it (b : Nat)), some (it (c : Nat)), w5] [] s (qi P) := by
  intro j
  induction j with
  | zero =>
    intro a b c w5 hb hc ha h
    have e : b = 0 := by omega
    subst e
    rw [Nat.gcd_zero_right] at h
    exact f130_7 ⟨fun _ => h, fun _ => ⟨fun _ => h, fun z => absurd rfl z⟩⟩
  | succ j ih =>
    intro a b c w5 hb hc ha h
    have zc : ∀ _ : Unit, zw ((c : Nat) + 1) = ((c + 1 : Nat) : Int) := fun _ => by rw [zw_id (by omega) (by omega)]; omega
    by_cases e : b = 0
    · subst e
      rw [Nat.gcd_zero_right] at h
      exact f130_7 ⟨fun _ => h, fun _ => ⟨fun _ => h, fun z => absurd rfl z⟩⟩
    · have hm := Nat.mod_lt a (show 0 < b by omega)
      refine f130_7 ⟨fun z => absurd z (by omega), fun _ => ⟨fun z => absurd z (by omega), fun _ => ⟨by omega, ?_⟩⟩⟩
      rw [zrem_nat (by omega) (by omega) (by omega), zc ()]
      exact ih b (a % b) (c + 1) _ (by omega) (by omega) (by omega) (by rw [← gcd_step]; exact h)
theorem i130 {a b : Nat} {P : Int → Pl → Prop} (hd : 1 ≤ d) (ha : a ≤ 20) (hb : b ≤ 20) (h : P ((Nat.gcd a b : Nat) : Int) s) : Ev xs L T0 106 d 130 [it (a : Nat), it (b : Nat)] s (qi P) :=
  e130 hd (f130_0 (l130 20 b a 0 _ ha (by omega) (by omega) (by rw [Nat.gcd_comm]; exact h)))
theorem l135 {v1 v2 v3 v4 : Int} {v5 v6 : Nat} {P : Int → Pl → Prop} (h5 : v5 ≤ 20) (h6 : v6 ≤ 20) : ∀ (j a b : Nat) (w9 : Option AV), b ≤ j → b < 1000 → 0 < a → a < 1000 → (v4 ≠ 0 → P ((v6 / Nat.gcd a b : Nat) : Int) s) → (v4 = 0 → P ((v5 / Nat.gcd a b : Nat) : Int) s) → Fr xs L T0 106 d 218 135 [some (rf 73), some (it v1), some (it v2), some (it v3), some (it v4), some (it (v5 : Nat)), some (it (v6 : Nat)), some (it (a : Nat)), some (it (b : Nat)), w9] [] s (ql P) := by
  intro j
  induction j with
  | zero =>
    intro a b w9 hb hb9 ha ha2 k1 k0
    have e : b = 0 := by omega
    subst e
    rw [Nat.gcd_zero_right] at k1 k0
    refine f218_135 ⟨fun _ => ⟨fun z => ⟨by omega, ?_⟩, fun z => ⟨by omega, ?_⟩⟩, fun z => absurd rfl z⟩
    · rw [zdiv_nat (by omega) ha (by omega)]; exact k1 z
    · rw [zdiv_nat (by omega) ha (by omega)]; exact k0 (Classical.not_not.mp z)
  | succ j ih =>
    intro a b w9 hb hb9 ha ha2 k1 k0
    by_cases e : b = 0
    · subst e
      rw [Nat.gcd_zero_right] at k1 k0
      refine f218_135 ⟨fun _ => ⟨fun z => ⟨by omega, ?_⟩, fun z => ⟨by omega, ?_⟩⟩, fun z => absurd rfl z⟩
      · rw [zdiv_nat (by omega) ha (by omega)]; exact k1 z
      · rw [zdiv_nat (by omega) ha (by omega)]; exact k0 (Classical.not_not.mp z)
    · have hm := Nat.mod_lt a (show 0 < b by omega)
      refine f218_135 ⟨fun z => absurd z (by omega), fun _ => ⟨by omega, ?_⟩⟩
      rw [zrem_nat (by omega) (by omega) (by omega)]
      rw [gcd_step (a := a)] at k1 k0
      exact ih b (a % b) _ (by omega) (by omega) (by omega) (by omega) k1 k0
