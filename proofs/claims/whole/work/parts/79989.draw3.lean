/-! draws, in the reference -/
theorem slr_pre (w : Pl) (t n x p q : Nat) : ∀ j, ∃ r, slr w t n x p (q + j) = slr w t n x p q ++ r := by
  intro j
  induction j with
  | zero => exact ⟨[], by simp⟩
  | succ j ih =>
    obtain ⟨r, hr⟩ := ih
    rw [show q + (j + 1) = (q + j) + 1 from rfl]
    simp only [slr]
    rw [hr, List.append_assoc]
    exact ⟨_, rfl⟩
theorem sla_pre (w : Pl) (t n x p : Nat) : ∀ j, ∃ r, sla w t n x (p + j) = sla w t n x p ++ r := by
  intro j
  induction j with
  | zero => exact ⟨[], by simp⟩
  | succ j ih =>
    obtain ⟨r, hr⟩ := ih
    rw [show p + (j + 1) = (p + j) + 1 from rfl]
    simp only [sla]
    rw [hr, List.append_assoc]
    exact ⟨_, rfl⟩
theorem sla_here {w : Pl} {t n x p q : Nat} (hp : p < n) (hq : q < n) (hs : swB w t n x p q = true) : ∃ r, sla w t n x n = (sla w t n x p ++ slr w t n x p q) ++ (p, q) :: r := by
  obtain ⟨r1, h1⟩ := sla_pre w t n x (p + 1) (n - (p + 1))
  obtain ⟨r2, h2⟩ := slr_pre w t n x p (q + 1) (n - (q + 1))
  rw [show p + 1 + (n - (p + 1)) = n from by omega] at h1
  rw [show q + 1 + (n - (q + 1)) = n from by omega] at h2
  rw [h1]
  simp only [sla]
  rw [h2]
  simp only [slr]
  rw [if_pos hs]
  exact ⟨r2 ++ r1, by simp⟩
variable {xs : Nat → Int} {L : Nat} {d : Nat} {s : Pl}
/-- swapsNow -/
theorem i213 {w : Pl} {t n x : Nat} {P : Int → Pl → Prop} (hd : 5 ≤ d) (hk : wOk w t n) (hm : Mst w t n s) (hx : mx n x s) (h : ∀ s2 : Pl, kG s s2 → P (((sla w t n x n).length : Nat) : Int) s2) : Ev xs L T0 106 d 213 [rf 73] s (qi P) := by
  have hn := hk.1.2
  have outer : ∀ (j p : Nat) (s1 : Pl) (w3 : Option AV), p + j = n → kG s s1 → Fr xs L T0 106 (d - 1) 213 4 [some (rf 73), some (it (((sla w t n x p).length : Nat) : Int)), some (it (p : Nat)), w3] [] s1 (qi P) := by
    intro j
    induction j with
    | zero =>
      intro p s1 w3 hp f
      have e : p = n := by omega
      subst e
      exact f213_4 ⟨fun _ => h s1 f, fun z => absurd (by rw [(f.mst hm).2.2.1.2]; omega) z⟩
    | succ j ih =>
      intro p s1 w3 hp f
      have zp : ∀ _ : Unit, zw ((p : Nat) + 1) = ((p + 1 : Nat) : Int) := fun _ => by rw [zw_id (by omega) (by omega)]; omega
      have inner : ∀ (j2 q : Nat) (s2 : Pl), q + j2 = n → kG s s2 → Fr xs L T0 106 (d - 1) 213 14 [some (rf 73), some (it (((sla w t n x p ++ slr w t n x p q).length : Nat) : Int)), some (it (p : Nat)), some (it (q : Nat))] [] s2 (qi P) := by
        intro j2
        induction j2 with
        | zero =>
          intro q s2 hq f2
          have e : q = n := by omega
          subst e
          refine f213_14 ⟨fun _ => ?_, fun z => absurd (by rw [(f2.mst hm).2.2.1.2]; omega) z⟩
          rw [zp ()]
          exact ih (p + 1) s2 _ (by omega) f2
        | succ j2 ih2 =>
          intro q s2 hq f2
          have zq : ∀ _ : Unit, zw ((q : Nat) + 1) = ((q + 1 : Nat) : Int) := fun _ => by rw [zw_id (by omega) (by omega)]; omega
          have h1 := sla_len w t n x p
          have h2 := slr_len w t n x p q
          have hpn : p * n ≤ 30 := by
            have h1 : p * n ≤ 5 * n := Nat.mul_le_mul_right n (by omega)
            omega
          have hlen : (sla w t n x p ++ slr w t n x p q).length < 36 := by rw [List.length_append]; omega
          refine f213_14 ⟨fun z => absurd z (by rw [(f2.mst hm).2.2.1.2]; omega), fun _ => ?_⟩
          refine i176 (by omega) hk (f2.mst hm) (f2.mx hx) (by omega) (by omega) (fun hs s3 f3 => ⟨fun z => absurd z (by decide), fun _ => f213_34 ?_⟩) (fun hs s3 f3 => ⟨fun _ => f213_34 ?_, fun z => absurd rfl z⟩)
          · have hsB := (swB_iff w t n x p q).mpr hs
            have e := ih2 (q + 1) s3 (by omega) (f2.trans f3)
            simp only [slr] at e
            rw [if_pos hsB, ← List.append_assoc] at e
            have z1 : ∀ _ : Unit, zw ((((sla w t n x p ++ slr w t n x p q).length : Nat) : Int) + 1) = ((((sla w t n x p ++ slr w t n x p q) ++ [(p, q)]).length : Nat) : Int) := fun _ => by rw [List.length_append (bs := [(p, q)]), zw_id (by omega) (by omega)]; simp
            rw [zq (), z1 ()]
            exact e
          · have hsB : ¬ swB w t n x p q = true := fun z => hs ((swB_iff w t n x p q).mp z)
            have e := ih2 (q + 1) s3 (by omega) (f2.trans f3)
            simp only [slr] at e
            rw [if_neg hsB, List.append_nil] at e
            rw [zq ()]
            exact e
      refine f213_4 ⟨fun z => absurd z (by rw [(f.mst hm).2.2.1.2]; omega), fun _ => ?_⟩
      have e := inner n 0 s1 (by omega) f
      simp only [slr, List.append_nil] at e
      exact e
  exact e213 (by omega) (f213_0 (outer n 0 s _ (by omega) (kG.refl s)))
