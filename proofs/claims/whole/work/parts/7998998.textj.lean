/-! text: both sides alike -/
def wA (t : Nat) (w w2 : Pl) : Prop := (∀ c, 1 ≤ c → c ≤ 9 → w2 c = w c) ∧ w2 (22 + 4 * t) = w (22 + 4 * t) ∧ w2 (23 + 4 * t) = w (23 + 4 * t)
section WA
variable {t n : Nat} {w w2 : Pl}
theorem mayV_w (h : wA t w w2) : mayV w2 t = mayV w t := by funext p q l; unfold mayV; rw [h.2.1, h.2.2]
theorem rowV_w (h : wA t w w2) : rowV w2 t = rowV w t := by funext u v; unfold rowV; rw [h.2.1, h.2.2, h.1 9 (by decide) (by decide)]
theorem swp_w (h : wA t w w2) : swp w2 t n = swp w t n := by
  funext x p q
  unfold swp leaveV boardV standV foV
  rw [mayV_w h, h.1 3 (by decide) (by decide), h.1 4 (by decide) (by decide), h.1 7 (by decide) (by decide), h.1 8 (by decide) (by decide)]
theorem Eg_w (h : wA t w w2) (m : Nat) : Eg w2 t n m = Eg w t n m := by
  funext x y e
  unfold Eg egw
  rw [rowV_w h, swp_w h]
theorem pth_w (h : wA t w w2) (m x0 : Nat) : ∀ j, pth w2 t n m x0 j = pth w t n m x0 j
  | 0 => rfl
  | j + 1 => by
    funext y k
    unfold pth
    rw [pth_w h m x0 j, Eg_w h m]
theorem DD_w (h : wA t w w2) (m x0 Lm : Nat) : DD w2 t n m x0 Lm = DD w t n m x0 Lm := by
  funext y k
  unfold DD
  simp only [pth_w h m x0]
theorem SolC_w (h : wA t w w2) {m x0 Lm : Nat} {s : Pl} (v : SolC w t n m x0 Lm s) : SolC w2 t n m x0 Lm s := by
  unfold SolC at *
  rw [DD_w h]
  have e : awV w2 n = awV w n := by funext x; unfold awV; rw [h.1 4 (by decide) (by decide)]
  rw [e]
  exact v
theorem Lrn_w (h : wA t w w2) {s : Pl} (v : Lrn w t n s) : Lrn w2 t n s := by
  unfold Lrn at *
  rw [mayV_w h, rowV_w h, h.1 3 (by decide) (by decide)]
  exact v
end WA
theorem vE.text {s S : Pl} (h : ∀ c : Nat, c ≤ 9 ∧ c ≠ 0 ∨ 57 ≤ c ∧ c ≤ 67 → S c = s c) (h6 : (s 1 2).toNat < 6) (h22 : S (22 + 4 * (s 1 2).toNat) = s (22 + 4 * (s 1 2).toNat)) (h23 : S (23 + 4 * (s 1 2).toNat) = s (23 + 4 * (s 1 2).toNat)) (h9 : S 0 9 = s 0 9) (v : vE s) : vE S := by
  obtain ⟨w, hw, hE⟩ := v
  have e1 := h 1 (by omega)
  have e2 := h 2 (by omega)
  have es : stV S = stV s := by unfold stV; rw [e1, e2]
  have st := stc22 _ h6
  have wa : wA (s 1 2).toNat w (fun c => if stc c = true then S c else w c) := by
    refine ⟨fun c h1 h2 => ?_, ?_, ?_⟩
    · have q : stc c = true := by unfold stc; simp; omega
      show (if stc c = true then S c else w c) = w c
      rw [if_pos q, h c (by omega), hw c q]
    · show (if stc _ = true then S _ else w _) = w _
      rw [if_pos st.1, h22, hw _ st.1]
    · show (if stc _ = true then S _ else w _) = w _
      rw [if_pos st.2, h23, hw _ st.2]
  refine ⟨fun c => if stc c = true then S c else w c, fun c hc => ?_, fun q => ?_⟩
  · show S c = if stc c = true then S c else w c
    rw [if_pos hc]
  · rw [h9] at q
    obtain ⟨l, c⟩ := hE q
    rw [es, e1]
    refine ⟨Lrn_w wa ?_, SolC_w wa (c.cong (by rw [h 64 (by omega)]) (by rw [h 64 (by omega)]) (h 66 (by omega)) (h 67 (by omega)))⟩
    unfold Lrn at *
    rw [h 57 (by omega), h 59 (by omega), h 61 (by omega)]
    exact l
theorem vX.low {s S : Pl} {t : Nat} (h : vX s) (ht : 1 ≤ t) (h04 : s 0 4 = ((t : Nat) : Int)) (h1 : ∀ q : Nat, q < t → S (22 + 4 * q) = s (22 + 4 * q) ∧ S (23 + 4 * q) = s (23 + 4 * q)) (h2 : ∀ i : Int, i < 170 * ((t : Nat) : Int) → S 82 i = s 82 i ∧ S 83 i = s 83 i) (h3 : ∀ i : Int, i < 3 * ((t : Nat) : Int) → S 84 i = s 84 i) : vX0 S ∧ ∀ q : Nat, 1 ≤ q → q < t → vX1 S q := by
  refine ⟨?_, fun q q1 q2 => ?_⟩
  · have a := h1 0 (by omega)
    have b := h.1
    unfold vX0 at *
    rw [show S 22 = s 22 from a.1, show S 23 = s 23 from a.2]
    exact b
  · obtain ⟨g, e, c⟩ := h.2 q q1 (by omega)
    have a := h1 q q2
    obtain ⟨e0, e1, e2, ⟨_, _, b3⟩, ⟨_, _, b6⟩, _⟩ := id g
    refine ⟨by rw [a.1, a.2]; exact g, fun i i1 i2 => ?_, fun k hk => ?_⟩
    · rw [a.2, h3 _ (by omega)]
      exact e i i1 i2
    · rw [a.2] at hk
      rw [a.1, (h2 _ (by omega)).1, (h2 _ (by omega)).2]
      exact c k hk
section TJ
variable {xs : Nat → Int} {L : Nat} {d : Nat} {s : Pl}
theorem J87 (hd : 58 ≤ d) (hI : Inv s) : Ev xs L T0 106 d 87 [rf 1] s (qi fun r s1 => Ev xs L T0 106 d 159 [rf 73] s1 (qi fun r2 s2 => r2 = r ∧ Inv s2)) := by
  obtain ⟨v1, v2, v3, v4, v5, v6, v7, v8, v9, v10, v11⟩ := id hI.1
  obtain ⟨a1, a2, a3, a4, a5, a6⟩ := v1
  obtain ⟨b1, b2, b3, b4⟩ := v6
  obtain ⟨t, ht⟩ : ∃ t : Nat, s 0 4 = ((t : Nat) : Int) := ⟨(s 0 4).toNat, by omega⟩
  obtain ⟨m, hm⟩ : ∃ m : Nat, s 53 1 = ((m : Nat) : Int) := ⟨(s 53 1).toNat, by omega⟩
  have full : t = 6 → Ev xs L T0 106 d 159 [rf 73] s (qi fun r2 s2 => r2 = -4 ∧ Inv s2) := fun q => by
    refine e159 (by omega) (f159_0 ?_)
    rw [a4, ht, q]
    exact ⟨fun g => absurd rfl g, fun _ => ⟨rfl, hI⟩⟩
  refine e87 (by omega) (f87_0 ?_)
  rw [ht]
  refine ⟨fun g => absurd g (by omega), fun _ => ⟨fun g => ⟨by omega, fun tq h1 h2 => ?_⟩, fun g => full (by omega)⟩⟩
  obtain rfl : tq = t := by omega
  have ht1 : 1 ≤ tq := by omega
  have hS : tS (s 54) m s := ⟨hm, by omega, fun i hi => ⟨rfl, (b4 _ (by omega) (by omega)).1, (b4 _ (by omega) (by omega)).2.1⟩⟩
  refine c18 KR0 (by omega) h2 hS (fun e0 e1 z s1 etx c22 c230 c231 c232 fr => ?_) (fun p s1 etx fr => ?_)
  · -- it stands
    refine ⟨fun _ => ?_, fun g => absurd (by decide) g⟩
    have f04 : zup s1 53 1 0 0 4 = ((tq : Nat) : Int) := by rw [zg, if_neg (by omega), fr 0 4 (by unfold chF; omega), ht]
    rw [f04, zw_id (x := ((tq : Nat) : Int) + 1) (by omega) (by omega)]
    have f04b : zup (zup s1 53 1 0) 0 4 (((tq : Nat) : Int) + 1) 0 4 = ((tq : Nat) : Int) + 1 := by rw [zg, if_pos ⟨rfl, rfl⟩]
    rw [f04b, zw_id (by omega) (by omega), show ((tq : Nat) : Int) + 1 - 1 = ((tq : Nat) : Int) from by omega]
    have fS : ∀ c i, ¬ chF tq c i → ¬ (c = 53 ∧ i = 1) → ¬ (c = 0 ∧ i = 4) → zup (zup s1 53 1 0) 0 4 (((tq : Nat) : Int) + 1) c i = s c i := fun c i q1 q3 q4 => by
      rw [zg, if_neg q4, zg, if_neg q3, fr c i q1]
    have fL : ∀ c, c = 22 + 4 * tq ∨ c = 23 + 4 * tq → zup (zup s1 53 1 0) 0 4 (((tq : Nat) : Int) + 1) c = s1 c := fun c hc => by
      rw [zune _ _ _ (by omega), zune _ _ _ (by omega)]
    have f531 : zup (zup s1 53 1 0) 0 4 (((tq : Nat) : Int) + 1) 53 1 = 0 := by rw [zg, if_neg (by omega), zg, if_pos ⟨rfl, rfl⟩]
    generalize zup (zup s1 53 1 0) 0 4 (((tq : Nat) : Int) + 1) = S1 at *
    have hM : tM (s 54) m S1 := by
      refine ⟨⟨by rw [fS 72 12 (by unfold chF; omega) (by omega) (by omega), b1, hm], by omega⟩, fun i hi => ?_, fun i hi => ?_, fun i hi => ?_⟩
      · have := b4 ((i : Nat) : Int) (by omega) (by omega)
        rw [fS 81 _ (by unfold chF; omega) (by omega) (by omega)]
        exact this
      · rw [fS 87 _ (by unfold chF; omega) (by omega) (by omega)]; exact v10.1 i hi
      · rw [fS 88 _ (by unfold chF; omega) (by omega) (by omega)]; exact v10.2.1 i hi
    refine m159 (by omega) h2 hM (by rw [fS 72 13 (by unfold chF; omega) (by omega) (by omega), a4, ht]) 0 (s (22 + 4 * tq)) (fun e02 e12 z2 s2 etx2 g12 g13 gst g0 g1 g2 gfr => ?_) (fun p s2 etx2 => ?_)
    rotate_left
    · rw [etx] at etx2; cases etx2
    rw [etx] at etx2
    cases etx2
    refine ⟨rfl, ?_⟩
    have ne : ∀ c i, ¬ (chF tq c i ∨ c = 53 ∧ i = 1 ∨ c = 0 ∧ i = 4 ∨ c = 72 ∧ 12 ≤ i ∧ i ≤ 24 ∧ i ≠ 14 ∨ (c = 82 ∨ c = 83) ∧ 170 * ((tq : Nat) : Int) ≤ i ∨ c = 84 ∧ 3 * ((tq : Nat) : Int) ≤ i) → s2 c i = s c i := fun c i hc => by
      rw [gfr c i (by omega) (by omega) (by omega), fS c i (fun w => hc (Or.inl w)) (by omega) (by omega)]
    have k04 : s2 0 4 = ((tq + 1 : Nat) : Int) := by rw [gfr 0 4 (by omega) (by omega) (by omega), f04b]; omega
    have k531 : s2 53 1 = 0 := by rw [gfr 53 1 (by omega) (by omega) (by omega), f531]
    have kL : ∀ c, c = 22 + 4 * tq ∨ c = 23 + 4 * tq → s2 c = s1 c := fun c hc => by
      rw [← fL c hc]; funext i; exact gfr c i (by omega) (by omega) (by omega)
    have low := vX.low (S := s2) v9 ht1 ht (fun q hq => ⟨funext fun i => ne _ i (by unfold chF; omega), funext fun i => ne _ i (by unfold chF; omega)⟩) (fun i hi => ⟨ne 82 i (by unfold chF; omega), ne 83 i (by unfold chF; omega)⟩) (fun i hi => ne 84 i (by unfold chF; omega))
    have n70 : ∀ i, i = 2 ∨ i = 3 ∨ i = 14 → s2 72 i = s 72 i := fun i hi => ne 72 i (by unfold chF; omega)
    have n1 : ∀ i, s2 1 i = s 1 i := fun i => ne 1 i (by unfold chF; omega)
    have n09 : s2 0 9 = s 0 9 := ne 0 9 (by unfold chF; omega)
    refine ⟨JJ.chg hI.1 ne (Or.inr n09) (Or.inr ?_) (Or.inl fun c i q => by unfold mH at q; unfold chF; omega) (Or.inl fun c i q => by unfold chF; omega) (Or.inl fun c i q => by unfold mP at q; unfold chF; omega) (Or.inl fun c i q => by unfold mM at q; unfold chF; omega) (Or.inr ?_) (Or.inr ?_) (Or.inl fun c i q => by unfold mS at q; unfold chF; omega) (Or.inr ?_) (Or.inl fun c i q => by unfold chF; omega) (Or.inl fun c i q => by unfold chF; omega), ?_⟩
    · unfold vL
      rw [n70 2 (by omega), n70 3 (by omega), n70 14 (by omega), n1 0, n1 1, n1 2, g13, k04]
      exact ⟨a1, a2, ⟨a3.1, a3.2.1, by omega⟩, rfl, by omega, by omega⟩
    · exact ⟨by rw [g12, k531], by omega, by omega, fun k c1 c2 => absurd c2 (by omega)⟩
    · obtain ⟨c1, c2⟩ := id v7
      have n0 : ∀ c i, mK c i → ¬ (c = 0 ∧ i = 4) → s2 c i = s c i := fun c i q q2 => ne c i (by unfold mK at q; unfold chF; omega)
      refine ⟨?_, fun q => ?_⟩
      · rw [n0 72 45 (by unfold mK; omega) (by omega), n0 0 2 (by unfold mK; omega) (by omega)]; exact c1
      · rw [n0 0 2 (by unfold mK; omega) (by omega)] at q
        have c3 := c2 q
        have c4 : vK1 (zup s2 0 4 (s 0 4)) := (cK (s := s) (s1 := zup s2 0 4 (s 0 4)) (fun c i q => by
          rw [zg]
          by_cases e : c = 0 ∧ i = 4
          · rw [if_pos e, e.1, e.2]
          · rw [if_neg e]; exact n0 c i q e) v7).2 (by rw [zg, if_neg (by omega), n0 0 2 (by unfold mK; omega) (by omega)]; exact q)
        obtain ⟨d1, d2, d3, d4⟩ := c4
        have zz : ∀ c i, c ≠ 0 → zup s2 0 4 (s 0 4) c i = s2 c i := fun c i q => by rw [zg, if_neg (by omega)]
        have z04 : zup s2 0 4 (s 0 4) 0 4 = s 0 4 := by rw [zg, if_pos ⟨rfl, rfl⟩]
        rw [z04] at d3
        have zf : ∀ c, c ≠ 0 → zup s2 0 4 (s 0 4) c = s2 c := fun c q => zune _ _ _ q
        rw [zf 72 (by decide), zf 10 (by decide)] at d1 d2 d3
        rw [zf 101 (by decide), zf 18 (by decide), zf 10 (by decide), zf 99 (by decide), zf 11 (by decide), zf 100 (by decide), zf 17 (by decide), zf 12 (by decide), zf 13 (by decide), zf 14 (by decide), zf 15 (by decide), zf 16 (by decide), zf 3 (by decide), zf 4 (by decide), zf 5 (by decide), zf 6 (by decide), zf 7 (by decide)] at d4
        rw [zf 1 (by decide)] at d2
        exact ⟨d1, d2, ⟨d3.1, d3.2.1, by omega⟩, d4⟩
    · refine ⟨low.1, fun q q1 q2 => ?_⟩
      by_cases e : q < tq
      · exact low.2 q q1 e
      · obtain rfl : q = tq := by omega
        refine ⟨?_, fun i i1 i2 => ?_, fun k hk => ?_⟩
        · rw [kL _ (Or.inl rfl), kL _ (Or.inr rfl), c22]
          exact tx_gd hS.2.1 etx c230 c231 c232
        · rw [kL _ (Or.inr rfl)]
          rcases (show i = 0 ∨ i = 1 ∨ i = 2 by omega) with rfl | rfl | rfl
          · rw [Int.add_zero, g0, c230]
          · rw [g1, c231]
          · rw [g2, c232]
        · rw [kL _ (Or.inr rfl), c232] at hk
          rw [kL _ (Or.inl rfl), c22]
          exact gst k (by omega)
    · refine vE.text (s := s) (fun c hc => funext fun i => ne c i (by unfold chF; omega)) (by omega) (funext fun i => ne _ i (by unfold chF; omega)) (funext fun i => ne _ i (by unfold chF; omega)) n09 hI.2
  · -- it fails
    have pz : 0 ≤ ((p : Nat) : Int) := by omega
    refine ⟨fun g => absurd g (by omega), fun _ => ?_⟩
    have fS : ∀ c i, ¬ chF tq c i → ¬ (c = 53 ∧ i = 1) → zup s1 53 1 0 c i = s c i := fun c i q1 q3 => by
      rw [zg, if_neg q3, fr c i q1]
    have f531 : zup s1 53 1 0 53 1 = 0 := by rw [zg, if_pos ⟨rfl, rfl⟩]
    generalize zup s1 53 1 0 = S1 at *
    have hM : tM (s 54) m S1 := by
      refine ⟨⟨by rw [fS 72 12 (by unfold chF; omega) (by omega), b1, hm], by omega⟩, fun i hi => ?_, fun i hi => ?_, fun i hi => ?_⟩
      · have := b4 ((i : Nat) : Int) (by omega) (by omega)
        rw [fS 81 _ (by unfold chF; omega) (by omega)]
        exact this
      · rw [fS 87 _ (by unfold chF; omega) (by omega)]; exact v10.1 i hi
      · rw [fS 88 _ (by unfold chF; omega) (by omega)]; exact v10.2.1 i hi
    refine m159 (by omega) h2 hM (by rw [fS 72 13 (by unfold chF; omega) (by omega), a4, ht]) 0 (s (22 + 4 * tq)) (fun e02 e12 z2 s2 etx2 => ?_) (fun p2 s2 etx2 g12 gfr hp => ?_)
    · rw [etx] at etx2; cases etx2
    rw [etx] at etx2
    cases etx2
    refine ⟨by rw [zw_id (by omega) (by omega)], ?_⟩
    have ne : ∀ c i, ¬ (chF tq c i ∨ c = 53 ∧ i = 1 ∨ c = 72 ∧ (i = 12 ∨ 18 ≤ i ∧ i ≤ 24) ∨ (c = 82 ∨ c = 83) ∧ 1020 ≤ i ∨ c = 84 ∧ 18 ≤ i) → s2 c i = s c i := fun c i hc => by
      rw [gfr c i (by omega) (by omega) (by omega), fS c i (fun w => hc (Or.inl w)) (by omega)]
    have k531 : s2 53 1 = 0 := by rw [gfr 53 1 (by omega) (by omega) (by omega), f531]
    have k04 : s2 0 4 = s 0 4 := ne 0 4 (by unfold chF; omega)
    have low := vX.low (S := s2) v9 ht1 ht (fun q hq => ⟨funext fun i => ne _ i (by unfold chF; omega), funext fun i => ne _ i (by unfold chF; omega)⟩) (fun i hi => ⟨ne 82 i (by unfold chF; omega), ne 83 i (by unfold chF; omega)⟩) (fun i hi => ne 84 i (by unfold chF; omega))
    have n09 : s2 0 9 = s 0 9 := ne 0 9 (by unfold chF; omega)
    refine ⟨JJ.chg hI.1 ne (Or.inr n09) (Or.inl fun c i q => by unfold mL at q; unfold chF; omega) (Or.inl fun c i q => by unfold mH at q; unfold chF; omega) (Or.inl fun c i q => by unfold chF; omega) (Or.inl fun c i q => by unfold mP at q; unfold chF; omega) (Or.inl fun c i q => by unfold mM at q; unfold chF; omega) (Or.inr ?_) (Or.inl fun c i q => by unfold mK at q; unfold chF; omega) (Or.inl fun c i q => by unfold mS at q; unfold chF; omega) (Or.inr ?_) (Or.inl fun c i q => by unfold chF; omega) (Or.inl fun c i q => by unfold chF; omega), ?_⟩
    · exact ⟨by rw [g12, k531], by omega, by omega, fun k c1 c2 => absurd c2 (by omega)⟩
    · exact ⟨low.1, fun q q1 q2 => low.2 q q1 (by omega)⟩
    · refine vE.text (s := s) (fun c hc => funext fun i => ne c i (by unfold chF; omega)) (by omega) (funext fun i => ne _ i (by unfold chF; omega)) (funext fun i => ne _ i (by unfold chF; omega)) n09 hI.2
end TJ
