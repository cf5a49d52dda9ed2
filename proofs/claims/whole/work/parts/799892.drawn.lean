/-! drawn -/
def fDr (n : Nat) (s s1 : Pl) : Prop := ∀ c i, c ≠ 85 → c ≠ 86 → (c = 75 → i < 0 ∨ ((n : Nat) : Int) ≤ i) → (c = 72 → i ≠ 2 ∧ ¬ (35 ≤ i ∧ i ≤ 44)) → s1 c i = s c i
variable {xs : Nat → Int} {L : Nat} {d : Nat} {s : Pl}
theorem i185e {n : Nat} {s3 s4 : Pl} {P : Pl → Prop} (hd : 1 ≤ d) (hn : n ≤ 6) (hk : kept9 s3 s4) (hf : fDr n s4 s) (h : ∀ s2 : Pl, fM s3 s2 → P s2) : Ev xs L T0 106 d 185 [rf 73] s (qv P) := by
  refine i185 hd fun s1 k1 k2 k3 => h s1 ?_
  have e34 : s1 72 2 = s3 72 2 := by rw [k1, hf 72 34 (by decide) (by decide) (fun e => absurd e (by decide)) (by decide)]; exact hk.1
  have e73 : ∀ i, s1 75 i = s3 75 i := fun i => by
    by_cases hi : 0 ≤ i ∧ i < 6
    · rw [k2 i hi.1 hi.2, hf 92 i (by decide) (by decide) (fun e => absurd e (by decide)) (fun e => absurd e (by decide))]
      exact hk.2.1 i hi.1 hi.2
    · rw [k3 75 i (fun _ => by omega) (fun e => absurd e (by decide)), hf 75 i (by decide) (by decide) (fun _ => by omega) (fun e => absurd e (by decide))]
      exact hk.2.2 75 i (by decide) (fun e => absurd e (by decide))
  have key : ∀ c i, c ≠ 85 → c ≠ 86 → c ≠ 92 → (c = 72 → ¬ (34 ≤ i ∧ i ≤ 44)) → s1 c i = s3 c i := fun c i a b e f => by
    by_cases e3 : c = 75
    · subst e3; exact e73 i
    · by_cases e2 : c = 72 ∧ i = 2
      · rw [e2.1, e2.2]; exact e34
      · rw [k3 c i (fun q => absurd q e3) (fun q q2 => e2 ⟨q, q2⟩), hf c i a b (fun q => absurd q e3) (fun q => ⟨fun q2 => e2 ⟨q, q2⟩, by have := f q; omega⟩)]
        exact hk.2.2 c i e (fun q => by have := f q; omega)
  exact ⟨fun c hc => funext fun i => key c i (by omega) (by omega) (by omega) (by omega), fun c i a _ => key c i (by unfold scr at a; omega) (by unfold scr at a; omega) (by unfold scr at a; omega) (by unfold scr at a; omega)⟩
theorem fLt.dr {n : Nat} {s s1 : Pl} (h : fLt n s s1) : fDr n s s1 := fun c i a b e f => h c i a b e (fun q => by have := f q; omega)
theorem fDr.also {n : Nat} {s s1 s2 : Pl} (h : fDr n s s1) (h2 : kG s1 s2) : fDr n s s2 := fun c i a b e f => by rw [h2 c i a b, h c i a b e f]
/-- draw, the reference's -/
theorem i215 {w : Pl} {t n x0 seed k : Nat} {P : Pl → Prop} (hd : 6 ≤ d) (hk : wOk w t n) (hm : Mst w t n s) (hxo : okx n x0) (hx : mx n x0 s) (hs : seed < 1000000) (hk40 : k ≤ 40) (h : ∀ s1 : Pl, mx n (dx w t n x0 seed k) s1 → fLt n s s1 → s1 72 44 = dh w t n x0 seed k → P s1) : Ev xs L T0 106 d 215 [rf 73, it (seed : Nat), it (k : Nat)] s (qv P) := by
  have hn := hk.1.2
  have l : ∀ (j i : Nat) (s1 : Pl), i + j = k → mx n (dx w t n x0 seed i) s1 → fLt n s s1 → s1 72 44 = dh w t n x0 seed i → Fr xs L T0 106 (d - 1) 215 13 [some (rf 73), some (it (seed : Nat)), some (it (k : Nat)), some (lg ((dz seed i : Nat) : Int)), none, some (it (i : Nat))] [] s1 (qv P) := by
    intro j
    induction j with
    | zero =>
      intro i s1 hi g1 g2 g3
      have e : i = k := by omega
      subst e
      exact f215_13 ⟨fun _ => h s1 g1 g2 g3, fun z => absurd (by omega) z⟩
    | succ j ih =>
      intro i s1 hi g1 g2 g3
      have zi : ∀ _ : Unit, zw ((i : Nat) + 1) = ((i + 1 : Nat) : Int) := fun _ => by rw [zw_id (by omega) (by omega)]; omega
      have hlen : (sla w t n (dx w t n x0 seed i) n).length ≤ 36 := Nat.le_trans (sla_len w t n _ n) (Nat.mul_le_mul hn hn)
      refine f215_13 ⟨fun z => absurd z (by omega), fun _ => i213 (by omega) hk (g2.mst hm) g1 fun s2 f2 => ?_⟩
      have zn : ∀ _ : Unit, zw ((((sla w t n (dx w t n x0 seed i) n).length : Nat) : Int) + 3) = (((sla w t n (dx w t n x0 seed i) n).length + 3 : Nat) : Int) := fun _ => by rw [zw_id (by omega) (by omega)]; omega
      have r := dh_rng w t n x0 seed i
      have e44 : s2 72 44 = dh w t n x0 seed i := by rw [f2 72 44 (by decide) (by decide)]; exact g3
      rw [zn (), dz_step hs, dz_lot (dz_rng hs _) (by omega) (by omega), zi ()]
      refine ⟨by omega, i214 (x := dx w t n x0 seed i) (by omega) hk (f2.mst (g2.mst hm)) (dx_ok hxo i) (f2.mx g1) (Nat.mod_lt _ (by omega)) (by omega) fun s3 k1 k2 k3 => ?_⟩
      exact ih (i + 1) s3 (by omega) k1 (g2.trans (f2.fLt.trans k2)) (by rw [k3, e44]; rfl)
  have z1 : zl ((seed : Nat) + 1) = ((dz seed 0 : Nat) : Int) := by rw [zl_id (by omega) (by omega)]; simp only [dz]; omega
  refine e215 (by omega) (f215_0 ?_)
  rw [z1]
  exact l k 0 _ (by omega) ⟨by rw [zg, if_neg (by decide)]; exact hx.1, fun r hr => by rw [zg, if_neg (fun q => absurd q.1 (by decide))]; exact hx.2 r hr⟩ (fun c i _ _ _ f => by rw [zg, if_neg (fun q => (f q.1).2 q.2)]) (by rw [zg, if_pos ⟨rfl, rfl⟩]; rfl)
theorem i216 {v : Int} {P : Int → Pl → Prop} (hd : 2 ≤ d) (h : 0 ≤ v ∧ v ≤ 99999 → P 1 s) (h0 : ¬ (0 ≤ v ∧ v ≤ 99999) → P 0 s) : Ev xs L T0 106 d 216 [it v] s (qi P) :=
  e216 (by omega) (f216_0 (i132 (by omega) (fun q => ⟨Or.inr rfl, h q⟩) (fun q => ⟨Or.inl rfl, h0 q⟩)))
/-- drawn -/
theorem J113 {v1 v2 v3 : Int} (hd : 9 ≤ d) (hI : Inv s) : Ev xs L T0 106 d 113 [rf 1, it v1, it v2, it v3] s (qi fun r s1 => Ev xs L T0 106 d 217 [rf 73, it v1, it v2, it v3] s1 (qi fun r2 s2 => r2 = r ∧ Inv s2)) := by
  obtain ⟨w, t, n, x0, hw, hE⟩ := hI.wk
  have ht := hw.1.2.1.1
  have hn := hw.1.1.2
  have bad : ¬ ((0 ≤ v1 ∧ v1 ≤ 99999) ∧ (0 ≤ v2 ∧ v2 ≤ 40) ∧ 0 ≤ v3 ∧ v3 ≤ 2) → Ev xs L T0 106 d 217 [rf 73, it v1, it v2, it v3] s (qi fun r2 s2 => r2 = -2 ∧ Inv s2) := fun q => e217 (by omega) (f217_0 (i216 (by omega) (fun h1 => ⟨fun y => absurd y (by decide), fun _ => i132 (by omega) (fun h2 => ⟨fun y => absurd y (by decide), fun _ => i132 (by omega) (fun h3 => absurd ⟨h1, h2, h3⟩ q) (fun _ => ⟨fun y => absurd rfl y, fun _ => ⟨rfl, hI⟩⟩)⟩) (fun _ => ⟨fun _ => ⟨rfl, hI⟩, fun y => absurd rfl y⟩)⟩) (fun _ => ⟨fun _ => ⟨rfl, hI⟩, fun y => absurd rfl y⟩)))
  refine e113 (by omega) (f113_0 ⟨fun z => bad (by omega), fun z1 => ⟨fun z => bad (by omega), fun z2 => ⟨fun z => bad (by omega), fun z3 => ⟨fun z => bad (by omega), fun z4 => ⟨fun z => bad (by omega), fun z5 => ⟨fun z6 => ?_, fun z => bad (by omega)⟩⟩⟩⟩⟩⟩)
  obtain ⟨seed, rfl⟩ : ∃ k : Nat, v1 = (k : Nat) := ⟨v1.toNat, by omega⟩
  obtain ⟨k, rfl⟩ : ∃ k : Nat, v2 = (k : Nat) := ⟨v2.toNat, by omega⟩
  refine i122 (by omega) ht hw.2.2.2.2.2.1.2 ⟨t, ht, rfl, i34q (by omega) hw hE fun s1 h1 => ?_⟩
  refine i80 (by omega) hw h1 (by omega) (by omega) fun s2 k1 k2 c1 c2 c3 => ?_
  have hw2 := k1.1.wk hw
  have model : ∀ r : Int, (v3 = 0 → r = ((btn (thV w (dx w t n x0 seed k)) n : Nat) : Int)) → (v3 = 1 → r = dh w t n x0 seed k) → (v3 = 2 → r = (bt (dx w t n x0 seed k) : Nat)) → Ev xs L T0 106 d 217 [rf 73, it (seed : Nat), it (k : Nat), it v3] s2 (qi fun r2 s2 => r2 = r ∧ Inv s2) := by
    intro r r0 r1 r2
    refine e217 (by omega) (f217_0 (i216 (by omega) (fun _ => ⟨fun y => absurd y (by decide), fun _ => i132 (by omega) (fun _ => ⟨fun y => absurd y (by decide), fun _ => i132 (by omega) (fun _ => ⟨fun _ => i184 (by omega) fun s4 hkp => ?_, fun y => absurd (by decide) y⟩) (fun y => absurd (by omega) y)⟩) (fun y => absurd (by omega) y)⟩) (fun y => absurd (by omega) y)))
    have hm4 : Mst w t n s4 := hkp.fM.2.mst hw2.2.2.2.1
    refine i215 (by omega) hw.1 hm4 hw.2.2.1 (hkp.fM.2.mx hw2.2.2.2.2.1) (by omega) (by omega) fun s5 g1 g2 g3 => ?_
    have fin : ∀ v : Int, v = r → Fr xs L T0 106 (d - 1) 217 66 [some (rf 73), some (it (seed : Nat)), some (it (k : Nat)), some (it v3), none] [it v] s5 (qi fun r2 s2 => r2 = r ∧ Inv s2) := fun v q => f217_66 (i185e (by omega) hn hkp g2.dr fun s6 hs6 => ⟨q, k1.fin hI hw hs6⟩)
    exact ⟨fun y0 => ⟨fun y1 => fin _ (by rw [g1.1]; exact (r2 (by omega)).symm), fun y1 => fin _ (by rw [g3]; exact (r1 (by omega)).symm)⟩, fun y0 => i181 (by omega) hn (g2.mst hm4) g1 (fin _ (r0 (by omega)).symm)⟩
  refine ⟨fun y0 => ⟨fun y1 => model _ (fun q => absurd q (by omega)) (fun q => absurd q (by omega)) (fun _ => c1.1), fun y1 => model _ (fun q => absurd q (by omega)) (fun _ => c3) (fun q => absurd q (by omega))⟩, fun y0 => e41 (by omega) (f41_0 (model _ (fun _ => ?_) (fun q => absurd q (by omega)) (fun q => absurd q (by omega))))⟩
  rw [c1.2.2.2, k1.2.1.2.1.2.2.1, btn_or hn]
  congr 1
  exact btn_cong fun p _ => by unfold thV; rw [Bool.or_comm]
