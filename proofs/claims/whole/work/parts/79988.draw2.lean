/-! draws -/
theorem toL (x : Int) (h : -9223372036854775808 ≤ x ∧ x < 9223372036854775808) : (Int64.ofInt x).toInt = x := by
  rw [Int64.toInt_ofInt]
  exact Int.bmod_eq_of_le (by show -((18446744073709551616 : Nat) : Int) / 2 ≤ x; omega) (by show x < ((18446744073709551616 : Nat) + 1 : Int) / 2; omega)
theorem zlrem_pos {x c : Int} (h0 : 0 ≤ x) (h1 : x < 9223372036854775808) (hc : 0 < c) (hc2 : c < 9223372036854775808) : zlrem x c = x % c := by
  unfold zlrem
  have h2 : 0 ≤ x / c := Int.ediv_nonneg h0 (by omega)
  have h3 : x / c ≤ x := Int.ediv_le_self _ h0
  have e : (Int64.ofInt x / Int64.ofInt c).toInt = x / c := by
    rw [Int64.toInt_div, toL x ⟨by omega, h1⟩, toL c ⟨by omega, hc2⟩, Int.tdiv_eq_ediv_of_nonneg h0]
    exact zl_id (by omega) (by omega)
  rw [Int64.toInt_sub, Int64.toInt_mul, toL x ⟨by omega, h1⟩, e, toL c ⟨by omega, hc2⟩]
  have h4 : x % c = x - x / c * c := by
    have := Int.mul_ediv_add_emod x c
    rw [Int.mul_comm] at this
    omega
  have h5 : 0 ≤ x % c := Int.emod_nonneg _ (by omega)
  have h6 : x % c < c := Int.emod_lt_of_pos _ hc
  have h7 : (x / c * c).bmod (2 ^ 64) = x / c * c := zl_id (by omega) (by omega)
  rw [h7, ← h4]
  exact zl_id (by omega) (by omega)
theorem dz_rng {seed : Nat} (hs : seed < 1000000) : ∀ i, dz seed i < 2147483647 := by
  intro i
  cases i with
  | zero => simp only [dz]; omega
  | succ i => exact Nat.mod_lt _ (by decide)
theorem dz_step {seed : Nat} (hs : seed < 1000000) (i : Nat) : zlrem (zl (((dz seed i : Nat) : Int) * 48271)) 2147483647 = ((dz seed (i + 1) : Nat) : Int) := by
  have := dz_rng hs i
  rw [zl_id (by omega) (by omega), zlrem_pos (by omega) (by omega) (by decide) (by decide)]
  simp only [dz]
  omega
theorem dz_lot {z k : Nat} (hz : z < 2147483647) (hk : 0 < k) (hk2 : k < 1000) : zw (zlrem ((z : Nat) : Int) ((k : Nat) : Int)) = ((z % k : Nat) : Int) := by
  rw [zlrem_pos (by omega) (by omega) (by omega) (by omega)]
  have := Nat.mod_lt z hk
  rw [← Int.natCast_emod, zw_id (by omega) (by omega)]
variable {xs : Nat → Int} {L : Nat} {d : Nat} {s : Pl}
/-- draw, the class's -/
theorem i80 {w : Pl} {t n x0 seed k : Nat} {s0 : Pl} {P : Pl → Prop} (hd : 6 ≤ d) (hw : Wk w t n x0 s0) (hq : LQ w t n x0 s0 s) (hs : seed < 1000000) (hk : k ≤ 40) (h : ∀ s1 : Pl, LQ w t n x0 s0 s1 → fT t s s1 → lkk w n (dx w t n x0 seed k) s1 → s1 68 5 = (dx w t n x0 seed k : Nat) → s1 68 6 = dh w t n x0 seed k → P s1) : Ev xs L T0 106 d 80 [rf 69, it (seed : Nat), it (k : Nat)] s (qv P) := by
  have ht := hw.1.2.1.1
  have hn := hw.1.1.2
  have l : ∀ (j i : Nat) (s1 : Pl) (w6 : Option AV), i + j = k → LQ w t n x0 s0 s1 → fT t s s1 → lkk w n (dx w t n x0 seed i) s1 → s1 68 5 = (dx w t n x0 seed i : Nat) → s1 68 6 = dh w t n x0 seed i → Fr xs L T0 106 (d - 1) 80 12 [some (rf 69), some (it (seed : Nat)), some (it (k : Nat)), some (lg ((dz seed i : Nat) : Int)), none, some (it (i : Nat)), w6] [] s1 (qv P) := by
    intro j
    induction j with
    | zero =>
      intro i s1 w6 hi g1 g2 g3 g4 g5
      have e : i = k := by omega
      subst e
      exact f80_12 ⟨fun _ => h s1 g1 g2 g3 g4 g5, fun z => absurd (by omega) z⟩
    | succ j ih =>
      intro i s1 w6 hi g1 g2 g3 g4 g5
      have zi : ∀ _ : Unit, zw ((i : Nat) + 1) = ((i + 1 : Nat) : Int) := fun _ => by rw [zw_id (by omega) (by omega)]; omega
      have hw1 := g1.1.wk hw
      refine f80_12 ⟨fun z => absurd z (by omega), fun _ => ?_⟩
      rw [dz_step hs, zi ()]
      refine i49 (by omega) hw.1 hw1.2.1 g1.2.1 g3 fun s2 f1 f2 => ?_
      have hlen : (sla w t n (dx w t n x0 seed i) n).length ≤ 36 := Nat.le_trans (sla_len w t n _ n) (Nat.mul_le_mul hn hn)
      have zn : ∀ _ : Unit, zw (zw (s2 57 15 + 4) - 1) = (((sla w t n (dx w t n x0 seed i) n).length + 3 : Nat) : Int) := fun _ => by rw [f2.1, zw_id (x := ((sla w t n (dx w t n x0 seed i) n).length : Nat) + 4) (by omega) (by omega), zw_id (by omega) (by omega)]; omega
      have e0 : (if (0 : Int) < s2 57 15 then s2 57 15 else 0) = s2 57 15 := by rw [f2.1]; split <;> omega
      refine i230 (by omega) ?_
      rw [e0, zn (), dz_lot (dz_rng hs _) (by omega) (by omega)]
      have r := dh_rng w t n x0 seed i
      have g12 := g1.fT ht f1.fT
      refine ⟨by omega, i81 (x := dx w t n x0 seed i) (by omega) hw g12 (dx_ok hw.2.2.1 i) (f1.look g3) f2 (Nat.mod_lt _ (by omega)) (by rw [f1 68 5 (by decide) (by decide) (fun e => absurd e (by decide))]; exact g4) (by rw [f1 68 6 (by decide) (by decide) (fun e => absurd e (by decide))]; omega) fun s3 k1 k2 k3 k4 k5 => ?_⟩
      refine ih (i + 1) s3 _ (by omega) k1 (g2.trans (f1.fT.trans k2)) k3 k4 ?_
      rw [k5, f1 68 6 (by decide) (by decide) (fun e => absurd e (by decide)), g5]
      rfl
  refine e80 (by omega) (f80_0 (i74 (by omega) hw hq fun s1 k1 k2 k3 k4 k5 k6 k7 k8 => ?_))
  have z1 : zl ((seed : Nat) + 1) = ((dz seed 0 : Nat) : Int) := by rw [zl_id (by omega) (by omega)]; simp only [dz]; omega
  rw [z1]
  exact l k 0 s1 _ (by omega) k1 k2 k3 k4 k5
