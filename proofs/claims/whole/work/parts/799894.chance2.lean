/-! chance, both -/
variable {xs : Nat → Int} {L : Nat} {d : Nat} {s : Pl}
theorem l218 {w : Pl} {t n x0 seed k m p : Nat} {v3 v4 : Int} {s0 : Pl} {P : Int → Pl → Prop} (hd : 8 ≤ d) (hw : Wk w t n x0 s0) (hm20 : m ≤ 20) (hs : seed ≤ 99999) (hk : k ≤ 40) (hp : p < n) (h3 : zrem v3 100 = (k : Nat)) (hend : ∀ s1 : Pl, fM s0 s1 → (v4 ≠ 0 → P ((m / Nat.gcd (hv w t n x0 seed k p m) m : Nat) : Int) s1) ∧ (v4 = 0 → P ((hv w t n x0 seed k p m / Nat.gcd (hv w t n x0 seed k p m) m : Nat) : Int) s1)) (hm1 : 1 ≤ m) : ∀ (j i : Nat) (s1 : Pl), i + j = m → fM s0 s1 → Fr xs L T0 106 (d - 1) 218 67 [some (rf 73), some (it (p : Nat)), some (it (seed : Nat)), some (it v3), some (it v4), some (it ((hv w t n x0 seed k p i : Nat) : Int)), some (it (m : Nat)), some (it (i : Nat)), none, none] [] s1 (ql P) := by
  have hn := hw.1.1.2
  intro j
  induction j with
  | zero =>
    intro i s1 hi f
    have e : i = m := by omega
    subst e
    have hle := hv_le w t n x0 seed k p i
    obtain ⟨e1, e0⟩ := hend s1 f
    refine f218_67 ⟨fun _ => ⟨fun z => l135 (by omega) hm20 i _ i _ (Nat.le_refl i) (by omega) (by omega) (by omega) e1 e0, fun z => ?_⟩, fun z => absurd (by omega) z⟩
    have h0 : hv w t n x0 seed k p i = 0 := by omega
    rw [h0, Nat.gcd_zero_left] at e1 e0
    rw [Nat.div_self (by omega)] at e1
    rw [Nat.zero_div] at e0
    exact ⟨fun z => e1 z, fun z => e0 (Classical.not_not.mp z)⟩
  | succ j ih =>
    intro i s1 hi f
    have hle := hv_le w t n x0 seed k p i
    have zi : ∀ _ : Unit, zw ((i : Nat) + 1) = ((i + 1 : Nat) : Int) := fun _ => by rw [zw_id (by omega) (by omega)]; omega
    have zh : ∀ _ : Unit, zw (((hv w t n x0 seed k p i : Nat) : Int) + 1) = ((hv w t n x0 seed k p i + 1 : Nat) : Int) := fun _ => by rw [zw_id (by omega) (by omega)]; omega
    have zs : ∀ _ : Unit, zw ((seed : Nat) + (i : Nat)) = ((seed + i : Nat) : Int) := fun _ => by rw [zw_id (by omega) (by omega)]; omega
    have hw1 := f.2.wk hw
    refine f218_67 ⟨fun z => absurd z (by omega), fun _ => i184 (by omega) fun s4 hkp => ?_⟩
    have hm4 : Mst w t n s4 := hkp.fM.2.mst hw1.2.2.2.1
    rw [h3, zs ()]
    refine i215 (by omega) hw.1 hm4 hw.2.2.1 (hkp.fM.2.mx hw1.2.2.2.2.1) (by omega) hk fun s5 g1 g2 g3 => ?_
    have q101 : ∀ hh : Nat, hh = hv w t n x0 seed k p (i + 1) → Fr xs L T0 106 (d - 1) 218 101 [some (rf 73), some (it (p : Nat)), some (it (seed : Nat)), some (it v3), some (it v4), some (it (hh : Nat)), some (it (m : Nat)), some (it (i : Nat)), none, none] [] s5 (ql P) := fun hh e => f218_101 (i185e (by omega) hn hkp g2.dr fun s6 hs6 => by
      subst e
      rw [zi ()]
      exact ih (i + 1) s6 (by omega) (f.trans hs6))
    refine i180 (by omega) hn (g2.mst hm4) g1 hp (fun e => ⟨fun z => absurd z (by decide), fun _ => ?_⟩) (fun e => ⟨fun _ => q101 _ ?_, fun z => absurd rfl z⟩)
    · rw [zh ()]
      exact q101 _ (by simp only [hv]; rw [if_pos e])
    · simp only [hv]; rw [if_neg e]; rfl
/-- chance -/
theorem J114 {v1 v2 v3 v4 : Int} (hd : 9 ≤ d) (r3 : v3 < 2147483648) (hI : Inv s) : Ev xs L T0 106 d 114 [rf 1, it v1, it v2, it v3, it v4] s (ql fun r s1 => Ev xs L T0 106 d 218 [rf 73, it v1, it v2, it v3, it v4] s1 (ql fun r2 s2 => r2 = r ∧ Inv s2)) := by
  obtain ⟨w, t, n, x0, hw, hE⟩ := hI.wk
  have ht := hw.1.2.1.1
  have hn := hw.1.1.2
  have e11 : s 1 1 = (n : Nat) := hw.2.2.2.2.2.1.1
  have e703 : s 72 3 = (n : Nat) := hw.2.2.2.1.2.2.1.2
  obtain ⟨B, hB⟩ : ∃ B : Prop, B = ((0 ≤ v1 ∧ v1 < (n : Nat)) ∧ (0 ≤ v2 ∧ v2 ≤ 99999) ∧ (0 ≤ v3 ∧ (1 ≤ zdiv v3 100 ∧ zdiv v3 100 ≤ 20) ∧ zrem v3 100 ≤ 40) ∧ 0 ≤ v4 ∧ v4 ≤ 1) := ⟨_, rfl⟩
  have bad : ¬ B → Ev xs L T0 106 d 218 [rf 73, it v1, it v2, it v3, it v4] s (ql fun r2 s2 => r2 = -4611686018427387904 ∧ Inv s2) := fun q => e218 (by omega) (f218_0 (i135 (by omega) (by omega) (fun h1 => ⟨fun y => absurd y (by decide), fun _ => i216 (by omega) (fun h2 => ⟨fun y => absurd y (by decide), fun _ => ⟨fun _ => ⟨rfl, hI⟩, fun h3 => i132 (by omega) (fun h4 => ⟨fun y => absurd y (by decide), fun _ => ⟨fun _ => ⟨rfl, hI⟩, fun h5 => i132 (by omega) (fun h6 => absurd (by rw [hB]; exact ⟨by omega, h2, ⟨by omega, h4, by omega⟩, h6⟩) q) (fun _ => ⟨fun y => absurd rfl y, fun _ => ⟨rfl, hI⟩⟩)⟩⟩) (fun _ => ⟨fun _ => ⟨rfl, hI⟩, fun y => absurd rfl y⟩)⟩⟩) (fun _ => ⟨fun _ => ⟨rfl, hI⟩, fun y => absurd rfl y⟩)⟩) (fun _ => ⟨fun _ => ⟨rfl, hI⟩, fun y => absurd rfl y⟩)))
  have q41 : ∀ vs : Int, (vs = 0 ∧ ¬ (0 ≤ v3 ∧ (1 ≤ zdiv v3 100 ∧ zdiv v3 100 ≤ 20) ∧ zrem v3 100 ≤ 40)) ∨ (vs = 1 ∧ (0 ≤ v3 ∧ (1 ≤ zdiv v3 100 ∧ zdiv v3 100 ≤ 20) ∧ zrem v3 100 ≤ 40)) → Fr xs L T0 106 (d - 1) 114 41 [some (rf 1), some (it v1), some (it v2), some (it v3), some (it v4), some (it (zdiv v3 100)), some (it (zrem v3 100)), none, none, none] [it vs] s (ql fun r s1 => Ev xs L T0 106 d 218 [rf 73, it v1, it v2, it v3, it v4] s1 (ql fun r2 s2 => r2 = r ∧ Inv s2)) := by
    intro vs hvs
    refine f114_41 (i2 (by omega) (by omega) (fun h1 => ⟨fun y => absurd y (by decide), fun _ => ⟨fun z => bad (by rw [hB]; exact fun q => by have := q.2.1; omega), fun z1 => ⟨fun z => bad (by rw [hB]; exact fun q => by have := q.2.1; omega), fun z2 => ⟨fun z => bad (by rw [hB]; exact fun q => hvs.elim (fun u => u.2 q.2.2.1) (fun u => by have := u.1; omega)), fun z3 => ?_⟩⟩⟩⟩) (fun h1 => ⟨fun _ => bad (by rw [hB]; exact fun q => h1 (by have := q.1; omega)), fun y => absurd rfl y⟩))
    have h3 : 0 ≤ v3 ∧ (1 ≤ zdiv v3 100 ∧ zdiv v3 100 ≤ 20) ∧ zrem v3 100 ≤ 40 := by
      rcases hvs with ⟨u, _⟩ | ⟨_, u⟩
      · exact absurd u z3
      · exact u
    have hrem : 0 ≤ zrem v3 100 := by rw [zrem_pos h3.1 r3 (by decide) (by decide)]; omega
    obtain ⟨p, rfl⟩ : ∃ k : Nat, v1 = (k : Nat) := ⟨v1.toNat, by omega⟩
    obtain ⟨seed, rfl⟩ : ∃ k : Nat, v2 = (k : Nat) := ⟨v2.toNat, by omega⟩
    obtain ⟨m, hm⟩ : ∃ k : Nat, zdiv v3 100 = (k : Nat) := ⟨(zdiv v3 100).toNat, by omega⟩
    obtain ⟨k, hk⟩ : ∃ k : Nat, zrem v3 100 = (k : Nat) := ⟨(zrem v3 100).toNat, by omega⟩
    rw [hm, hk]
    have q85 : (v4 = 0 ∨ v4 = 1) → Fr xs L T0 106 (d - 1) 114 85 [some (rf 1), some (it (p : Nat)), some (it (seed : Nat)), some (it v3), some (it v4), some (it (m : Nat)), some (it (k : Nat)), some (it vs), none, none] [] s (ql fun r s1 => Ev xs L T0 106 d 218 [rf 73, it (p : Nat), it (seed : Nat), it v3, it v4] s1 (ql fun r2 s2 => r2 = r ∧ Inv s2)) := by
      intro h4
      refine f114_85 (i122 (by omega) ht hw.2.2.2.2.2.1.2 ⟨t, ht, rfl, i34q (by omega) hw hE fun s1 g1 => ?_⟩)
      have model : ∀ (r : Int) (s2 : Pl), LQ w t n x0 s s2 → (v4 ≠ 0 → r = ((m / Nat.gcd (hv w t n x0 seed k p m) m : Nat) : Int)) → (v4 = 0 → r = ((hv w t n x0 seed k p m / Nat.gcd (hv w t n x0 seed k p m) m : Nat) : Int)) → Ev xs L T0 106 d 218 [rf 73, it (p : Nat), it (seed : Nat), it v3, it v4] s2 (ql fun r2 s2 => r2 = r ∧ Inv s2) := by
        intro r s2 k1 r1 r0
        have hw2 := k1.1.wk hw
        have e7032 : s2 72 3 = (n : Nat) := hw2.2.2.2.1.2.2.1.2
        refine e218 (by omega) (f218_0 (i135 (by omega) (by omega) (fun _ => ⟨fun y => absurd y (by decide), fun _ => i216 (by omega) (fun _ => ⟨fun y => absurd y (by decide), fun _ => ⟨fun y => absurd y (by omega), fun _ => i132 (by omega) (fun _ => ⟨fun y => absurd y (by decide), fun _ => ⟨fun y => absurd y (by omega), fun _ => i132 (by omega) (fun _ => ⟨fun _ => ?_, fun y => absurd (by decide) y⟩) (fun y => absurd (by omega) y)⟩⟩) (fun y => absurd h3.2.1 y)⟩⟩) (fun y => absurd (by omega) y)⟩) (fun y => absurd (by omega) y)))
        rw [hm]
        exact l218 (k := k) (by omega) hw2 (by omega) (by omega) (by omega) (by omega) hk (fun s3 f3 => ⟨fun y => ⟨(r1 y).symm, k1.fin hI hw f3⟩, fun y => ⟨(r0 y).symm, k1.fin hI hw f3⟩⟩) (by omega) m 0 s2 (by omega) (fM.refl s2)
      have l : ∀ (j i : Nat) (s2 : Pl), i + j = m → LQ w t n x0 s s2 → Fr xs L T0 106 (d - 1) 114 102 [some (rf 1), some (it (p : Nat)), some (it (seed : Nat)), some (it v3), some (it v4), some (it (m : Nat)), some (it (k : Nat)), some (it vs), some (it ((hv w t n x0 seed k p i : Nat) : Int)), some (it (i : Nat))] [] s2 (ql fun r s1 => Ev xs L T0 106 d 218 [rf 73, it (p : Nat), it (seed : Nat), it v3, it v4] s1 (ql fun r2 s2 => r2 = r ∧ Inv s2)) := by
        intro j
        induction j with
        | zero =>
          intro i s2 hi k1
          have e : i = m := by omega
          subst e
          have hle := hv_le w t n x0 seed k p i
          have hpos : 0 < Nat.gcd (hv w t n x0 seed k p i) i := Nat.gcd_pos_of_pos_right _ (by omega)
          have hgl : Nat.gcd (hv w t n x0 seed k p i) i ≤ i := Nat.le_of_dvd (by omega) (Nat.gcd_dvd_right _ _)
          refine f114_102 ⟨fun _ => i130 (by omega) (by omega) (by omega) ⟨fun _ => ⟨fun z => ⟨by omega, ?_⟩, fun z => ⟨by omega, ?_⟩⟩, fun z => absurd (by omega) z⟩, fun z => absurd (by omega) z⟩
          · rw [zdiv_nat (by omega) hpos (by omega)]
            exact model _ s2 k1 (fun _ => rfl) (fun q => absurd q z)
          · rw [zdiv_nat (by omega) hpos (by omega)]
            exact model _ s2 k1 (fun q => absurd q z) (fun _ => rfl)
        | succ j ih =>
          intro i s2 hi k1
          have hle := hv_le w t n x0 seed k p i
          have zi : ∀ _ : Unit, zw ((i : Nat) + 1) = ((i + 1 : Nat) : Int) := fun _ => by rw [zw_id (by omega) (by omega)]; omega
          have zs : ∀ _ : Unit, zw ((seed : Nat) + (i : Nat)) = ((seed + i : Nat) : Int) := fun _ => by rw [zw_id (by omega) (by omega)]; omega
          refine f114_102 ⟨fun z => absurd z (by omega), fun _ => ?_⟩
          rw [zs (), zi ()]
          refine i80 (by omega) hw k1 (by omega) (by omega) fun s3 u1 u2 c1 c2 c3 => e41 (by omega) (f41_0 ?_)
          rw [c1.2.2.2, u1.2.1.2.1.2.2.1, btn_or hn, tbn hn (by omega)]
          have eT : (decide (p < n) && (decide (((pl (dx w t n x0 (seed + i) k) p : Nat) : Int) = w 4 p) || uA (w 3 p) 3)) = thV w (dx w t n x0 (seed + i) k) p := by
            unfold thV; rw [decide_eq_true (show p < n by omega), Bool.true_and, Bool.or_comm]
          rw [eT]
          have := ih (i + 1) s3 (by omega) u1
          simp only [hv] at this
          by_cases e : thV w (dx w t n x0 (seed + i) k) p = true
          · rw [if_pos e] at this ⊢
            rw [zw_id (x := ((hv w t n x0 seed k p i : Nat) : Int) + 1) (by omega) (by omega)]
            exact this
          · rw [if_neg e] at this ⊢
            rw [zw_id (x := ((hv w t n x0 seed k p i : Nat) : Int) + 0) (by omega) (by omega)]
            exact this
      exact l m 0 s1 (by omega) g1
    refine ⟨fun z4 => q85 (Or.inl z4), fun z4 => ⟨fun z5 => q85 (Or.inr z5), fun z5 => bad (by rw [hB]; exact fun q => by have := q.2.2.2; omega)⟩⟩
  have q40 : ¬ (0 ≤ v3 ∧ (1 ≤ zdiv v3 100 ∧ zdiv v3 100 ≤ 20) ∧ zrem v3 100 ≤ 40) → Fr xs L T0 106 (d - 1) 114 40 [some (rf 1), some (it v1), some (it v2), some (it v3), some (it v4), some (it (zdiv v3 100)), some (it (zrem v3 100)), none, none, none] [] s (ql fun r s1 => Ev xs L T0 106 d 218 [rf 73, it v1, it v2, it v3, it v4] s1 (ql fun r2 s2 => r2 = r ∧ Inv s2)) := fun q => f114_40 (q41 0 (Or.inl ⟨rfl, q⟩))
  exact e114 (by omega) (f114_0 ⟨fun z => q40 (by omega), fun z1 => ⟨fun z => q40 (by omega), fun z2 => ⟨fun z => q40 (by omega), fun z3 => ⟨fun z => q40 (by omega), fun z4 => q41 1 (Or.inr ⟨rfl, by omega⟩)⟩⟩⟩⟩)
