variable {xs : Nat → Int} {L : Nat} {d : Nat} {s : Pl}
/-- gap -/
theorem J106 (hd : 10 ≤ d) (hI : Inv s) : Ev xs L T0 106 d 106 [rf 1] s (qi fun r s1 => Ev xs L T0 106 d 206 [rf 73] s1 (qi fun r2 s2 => r2 = r ∧ Inv s2)) := by
  obtain ⟨w, t, n, x0, hw, hE⟩ := hI.wk
  have hn := hw.1.1.2
  refine e106 (by omega) (f106_0 (i123 (by omega) hw hE hI.h9 fun s1 k1 k2 k3 k4 => ?_))
  have hw1 := k1.wk hw
  refine i61 (by omega) hn hw1.2.2.2.2.2.1.1 k3 k4 fun r hr => ⟨fun z => ?_, fun z => ?_⟩
  · refine i52 (by omega) hw1.1 hw1.2.1 k3 hw1.2.2.2.2.2.1.1 hw1.2.2.2.2.2.2.1 hw1.2.2.2.2.2.2.2.1 fun D s2 hD hc => ?_
    have f2 := k1.trans (c58.fQ hc)
    have hw2 := f2.wk hw
    refine e206 (by omega) (f206_0 (i197 (m := 0) (by omega) (by decide) hw2.1 hw2.2.2.2.1 hw2.2.2.1 hw2.2.2.2.2.1 fun r2 s3 hr2 hf => ?_))
    have e := hr2.uniq (fun _ _ _ => Iff.rfl) hr
    refine ⟨fun _ => i204 (by omega) hw2.1 (hf.2.mst hw2.2.2.2.1) (hf.2.mx hw2.2.2.2.2.1) hD fun s4 hs4 => ⟨by rw [e], hw.fin hI.1 f2 (by rw [hc 0 (by decide)]; exact Or.inr k2) (fun _ => ⟨k3.c58 hc, k4.c58 hc⟩) (hf.trans hs4.fM)⟩, fun z2 => absurd (by omega) z2⟩
  · refine e206 (by omega) (f206_0 (i197 (m := 0) (by omega) (by decide) hw1.1 hw1.2.2.2.1 hw1.2.2.1 hw1.2.2.2.2.1 fun r2 s3 hr2 hf => ?_))
    have e := hr2.uniq (fun _ _ _ => Iff.rfl) hr
    exact ⟨fun z2 => absurd (by omega) z, fun _ => ⟨rfl, hw.fin hI.1 k1 (Or.inr k2) (fun _ => ⟨k3, k4⟩) hf⟩⟩
/-- way -/
theorem J107 {u v : Int} (hd : 10 ≤ d) (hI : Inv s) : Ev xs L T0 106 d 107 [rf 1, it u, it v] s (qi fun r s1 => Ev xs L T0 106 d 207 [rf 73, it u, it v] s1 (qi fun r2 s2 => r2 = r ∧ Inv s2)) := by
  obtain ⟨w, t, n, x0, hw, hE⟩ := hI.wk
  have hn := hw.1.1.2
  have ht := hw.1.2.1.1
  by_cases hu : 0 ≤ u ∧ u < 4
  · by_cases hv : 0 ≤ v ∧ v < 4
    · refine e107 (by omega) (f107_0 (i126 (by omega) (fun _ => ⟨fun z => absurd z (by decide), fun _ => i126 (by omega) (fun _ => ⟨fun _ => ?_, fun z => absurd (by decide) z⟩) (fun z => absurd hv z)⟩) (fun z => absurd hu z)))
      refine i122 (by omega) ht hw.2.2.2.2.2.1.2 ⟨t, ht, rfl, i34 (by omega) hw.1 hw.2.1 fun s1 k1 k2 => ?_⟩
      have f1 := k2.fQ ht
      have hw1 := f1.wk hw
      have e09 : s1 0 9 = s 0 9 := k2 0 9 (by decide) (by omega) (by decide) (by decide) (fun e => absurd e (by decide))
      refine i51 (by omega) k1 fun s2 D hD htb hc => ?_
      have f2 := f1.trans (c58.fQ hc)
      have hw2 := f2.wk hw
      obtain ⟨a, rfl⟩ : ∃ a : Nat, u = (a : Nat) := ⟨u.toNat, by omega⟩
      obtain ⟨b, rfl⟩ : ∃ b : Nat, v = (b : Nat) := ⟨v.toNat, by omega⟩
      have zi : zw (zw (4 * (a : Nat)) + (b : Nat)) = 4 * (a : Nat) + (b : Nat) := by rw [zw_id (x := 4 * ((a : Nat) : Int)) (by omega) (by omega), zw_id (by omega) (by omega)]
      refine i245 (by omega) (by omega) (by omega) ?_
      rw [htb a b (by omega) (by omega)]
      refine e207 (by omega) (f207_0 (i134 (by omega) (fun _ => ⟨fun z => absurd z (by decide), fun _ => i134 (by omega) (fun _ => ⟨fun z => absurd z (by decide), fun _ => ?_⟩) (fun z => absurd hv z)⟩) (fun z => absurd hu z)))
      refine i203 (by omega) hw2.1 hw2.2.2.2.1 hD (by omega) (by omega) fun s3 hs3 => ⟨rfl, hw.fin hI.1 f2 (by rw [hc 0 (by decide), e09]; exact hI.h9) (fun q => ?_) hs3.fM⟩
      rw [hc 0 (by decide), e09] at q
      exact ⟨k1.c58 hc, (k2.sol ht (hE q).2).c58 hc⟩
    · exact e107 (by omega) (f107_0 (i126 (by omega) (fun _ => ⟨fun z => absurd z (by decide), fun _ => i126 (by omega) (fun z => absurd z hv) (fun _ => ⟨fun z => absurd rfl z, fun _ => e207 (by omega) (f207_0 (i134 (by omega) (fun _ => ⟨fun z => absurd z (by decide), fun _ => i134 (by omega) (fun z => absurd z hv) (fun _ => ⟨fun _ => ⟨rfl, hI⟩, fun z => absurd rfl z⟩)⟩) (fun z => absurd hu z)))⟩)⟩) (fun z => absurd hu z)))
  · exact e107 (by omega) (f107_0 (i126 (by omega) (fun z => absurd z hu) (fun _ => ⟨fun _ => e207 (by omega) (f207_0 (i134 (by omega) (fun z => absurd z hu) (fun _ => ⟨fun _ => ⟨rfl, hI⟩, fun z => absurd rfl z⟩))), fun z => absurd rfl z⟩)))
/-- best -/
theorem J104 {h v : Int} (hd : 10 ≤ d) (hI : Inv s) : Ev xs L T0 106 d 104 [rf 1, it h, it v] s (qi fun r s1 => Ev xs L T0 106 d 202 [rf 73, it h, it v] s1 (qi fun r2 s2 => r2 = r ∧ Inv s2)) := by
  obtain ⟨w, t, n, x0, hw, hE⟩ := hI.wk
  have hn := hw.1.1.2
  have ht := hw.1.2.1.1
  have bad1 : ¬ (0 ≤ h ∧ h ≤ 400) → Ev xs L T0 106 (d - 1 + 1) 202 [rf 73, it h, it v] s (qi fun r2 s2 => r2 = -2 ∧ Inv s2) := fun hb =>
    e202 (by omega) (f202_0 (i132 (by omega) (fun q => absurd q hb) (fun _ => ⟨fun _ => ⟨rfl, hI⟩, fun z => absurd rfl z⟩)))
  have bad2 : 0 ≤ h ∧ h ≤ 400 → ¬ (v = 0 ∨ v = 1) → Ev xs L T0 106 (d - 1 + 1) 202 [rf 73, it h, it v] s (qi fun r2 s2 => r2 = -2 ∧ Inv s2) := fun hh hb =>
    e202 (by omega) (f202_0 (i132 (by omega) (fun _ => ⟨fun z => absurd z (by decide), fun _ => i132 (by omega) (fun q => absurd (by omega) hb) (fun _ => ⟨fun z => absurd rfl z, fun _ => ⟨rfl, hI⟩⟩)⟩) (fun q => absurd hh q)))
  rw [show d - 1 + 1 = d from by omega] at bad1 bad2
  have good : 0 ≤ h ∧ h ≤ 400 → (v = 0 ∨ v = 1) → Fr xs L T0 106 (d - 1) 104 23 [some (rf 1), some (it h), some (it v)] [] s (qi fun r s1 => Ev xs L T0 106 d 202 [rf 73, it h, it v] s1 (qi fun r2 s2 => r2 = r ∧ Inv s2)) := by
    intro hh hv
    obtain ⟨hr, rfl⟩ : ∃ hr : Nat, h = (hr : Nat) := ⟨h.toNat, by omega⟩
    refine f104_23 (i123 (by omega) hw hE hI.h9 fun s1 k1 k2 k3 k4 => ?_)
    have hw1 := k1.wk hw
    refine i63 (by omega) hw1.1 hw1.2.1 k3.1 (by omega) k4 fun s2 hs2 hb => ?_
    have f2 := k1.trans (hs2.fQ ht)
    have hw2 := f2.wk hw
    have l2 : Lrn w t n s2 := by
      have e55 : s2 57 = s1 57 := funext fun i => hs2 57 i (by decide) (by omega) (fun e => absurd e (by decide))
      have e57 : s2 59 = s1 59 := funext fun i => hs2 59 i (by decide) (by omega) (fun e => absurd e (by decide))
      have e59 : s2 61 = s1 61 := funext fun i => hs2 61 i (by decide) (by omega) (fun e => absurd e (by decide))
      unfold Lrn at *
      rw [e55, e57, e59]
      exact k3
    have c2 : SolC w t n 0 x0 400 s2 := k4.cong (hs2 64 4 (by decide) (by omega) (by decide)) (hs2 64 5 (by decide) (by omega) (by decide)) (funext fun i => hs2 66 i (by decide) (by omega) (fun e => absurd e (by decide))) (funext fun i => hs2 67 i (by decide) (by omega) (fun e => absurd e (by decide)))
    have e09 : s2 0 9 = 1 := by rw [hs2 0 9 (by decide) (by omega) (fun e => absurd e (by decide))]; exact k2
    have model : ∀ r : Int, (v ≠ 0 → s2 64 7 = r) → (v = 0 → s2 64 6 = r) → Ev xs L T0 106 d 202 [rf 73, it (hr : Nat), it v] s2 (qi fun r2 s3 => r2 = r ∧ Inv s3) := by
      intro r q1 q2
      refine e202 (by omega) (f202_0 (i132 (by omega) (fun _ => ⟨fun z => absurd z (by decide), fun _ => i132 (by omega) (fun _ => ⟨fun _ => ?_, fun z => absurd (by decide) z⟩) (fun q => absurd (by omega) q)⟩) (fun q => absurd hh q)))
      refine i195 (m := 0) (by omega) (by decide) hw2.1 hw2.2.2.2.1 hw2.2.2.1 hw2.2.2.2.2.1 fun s3 m1 m2 => i184 (by omega) fun s4 m3 => ?_
      refine l202 (by omega) hw2.1 (m3.fM.2.mst (m2.fM.2.mst hw2.2.2.2.1)) (m3.sol m1) m3 fun a b s5 hb2 hf => ?_
      have hu := hb2.uniq hb
      have hInv := hw.fin hI.1 f2 (Or.inr e09) (fun _ => ⟨l2, c2⟩) (m2.fM.trans hf.fM)
      exact ⟨fun z => ⟨by rw [hu.2, q1 z], hInv⟩, fun z => ⟨by rw [hu.1, q2 z], hInv⟩⟩
    exact ⟨fun z => model _ (fun _ => rfl) (fun q => absurd q z), fun z => model _ (fun q => absurd q z) (fun _ => rfl)⟩
  refine e104 (by omega) (f104_0 ⟨fun z => bad1 (by omega), fun z1 => ⟨fun z => bad1 (by omega), fun z2 => ⟨fun z3 => good (by omega) (Or.inl z3), fun z3 => ⟨fun z4 => good (by omega) (Or.inr z4), fun z4 => bad2 (by omega) (by omega)⟩⟩⟩⟩)
/-- never -/
theorem J103 {v : Int} (hd : 10 ≤ d) (hI : Inv s) : Ev xs L T0 106 d 103 [rf 1, it v] s (qi fun r s1 => Ev xs L T0 106 d 200 [rf 73, it v] s1 (qi fun r2 s2 => r2 = r ∧ Inv s2)) := by
  obtain ⟨w, t, n, x0, hw, hE⟩ := hI.wk
  have hn := hw.1.1.2
  have good : (v = 0 ∨ v = 1) → Fr xs L T0 106 (d - 1) 103 12 [some (rf 1), some (it v)] [] s (qi fun r s1 => Ev xs L T0 106 d 200 [rf 73, it v] s1 (qi fun r2 s2 => r2 = r ∧ Inv s2)) := by
    intro hv
    refine f103_12 (i123 (by omega) hw hE hI.h9 fun s1 k1 k2 k3 k4 => ?_)
    have hw1 := k1.wk hw
    refine ⟨fun z => ?_, fun z => ?_⟩
    · have hv1 : v = 1 := by omega
      refine e200 (by omega) (f200_0 (i132 (by omega) (fun _ => ⟨fun _ => ?_, fun z => absurd (by decide) z⟩) (fun q => absurd (by omega) q)))
      refine i195 (m := 0) (by omega) (by decide) hw1.1 hw1.2.2.2.1 hw1.2.2.1 hw1.2.2.2.2.1 fun s3 m1 m2 => ⟨fun q => absurd hv1 q, fun _ => ?_⟩
      refine ⟨?_, hw.fin hI.1 k1 (Or.inr k2) (fun _ => ⟨k3, k4⟩) m2.fM⟩
      obtain ⟨N, C, f, B, ⟨a1, a2⟩, ⟨a3, a4, a5⟩, a6, ⟨b1, b2, b3, b4⟩, a7, a8, a9⟩ := k4
      obtain ⟨M, g, cs, ⟨c1, c2⟩, c3, c4, c5, c6⟩ := m1
      rw [a1, c1]
      congr 1
      refine same_len c4 a7 fun y => ⟨fun ⟨i, q1, q2⟩ => ?_, fun ⟨i, q1, q2⟩ => ?_⟩
      · obtain ⟨r1, i2, r2, r3, r4⟩ := (a9 y (cs i)).mp ((c6 _ _).mpr ⟨i, q1, q2, rfl⟩)
        have := B_mono b3 (cs i + 1) C (by omega) (by omega)
        exact ⟨i2, by omega, r4⟩
      · rw [← b2] at q1
        obtain ⟨c, r1, r2, r3⟩ := lay_ex b1 _ _ q1
        obtain ⟨i2, u1, u2, _⟩ := (c6 y c).mp ((a9 _ _).mpr ⟨r1, i, r2, r3, q2⟩)
        exact ⟨i2, u1, u2⟩
    · have hv0 : v = 0 := Classical.not_not.mp z
      subst hv0
      refine i40 (by omega) hn hw1.2.2.2.2.2.1.1 k3 (i62 (by omega) hn k4 fun F hF => ?_)
      rw [btn_an hn]
      refine e200 (by omega) (f200_0 (i132 (by omega) (fun _ => ⟨fun _ => ?_, fun z => absurd (by decide) z⟩) (fun q => absurd (by decide) q)))
      refine i195 (m := 0) (by omega) (by decide) hw1.1 hw1.2.2.2.1 hw1.2.2.1 hw1.2.2.2.2.1 fun s3 m1 m2 => ⟨fun _ => i184 (by omega) fun s4 m3 => ?_, fun q => absurd (by decide) q⟩
      refine l200 (by omega) hw1.1 (m3.fM.2.mst (m2.fM.2.mst hw1.2.2.2.1)) (m3.sol m1) m3 fun G s5 hG hf => ⟨?_, hw.fin hI.1 k1 (Or.inr k2) (fun _ => ⟨k3, k4⟩) (m2.fM.trans hf.fM)⟩
      congr 1
      refine btn_cong fun p hp => ?_
      have h1 := hF p hp
      have h2 := hG p hp
      cases hu : uA (w 3 p) 3 with
      | true =>
        have : G p = true := h2.mpr ⟨x0, 0, DD.start w t n 0 x0 400, by unfold thV; rw [hu]; rfl⟩
        rw [this]; rfl
      | false =>
        have e : G p = F p := by
          rw [Bool.eq_iff_iff, h1, h2]
          unfold thV
          rw [hu]
          simp
        rw [e]; rfl
  refine e103 (by omega) (f103_0 ⟨fun z3 => good (Or.inl z3), fun z3 => ⟨fun z4 => good (Or.inr z4), fun z4 => ?_⟩⟩)
  exact e200 (by omega) (f200_0 (i132 (by omega) (fun q => absurd (by omega) z4) (fun _ => ⟨fun z => absurd rfl z, fun _ => ⟨rfl, hI⟩⟩)))
