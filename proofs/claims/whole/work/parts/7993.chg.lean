/-! the calls that change a little -/
theorem JJ.chg {s S : Pl} {M : Nat → Int → Prop} (hj : JJ s) (ne : ∀ c i, ¬ M c i → S c i = s c i) (h9 : S 0 9 = 0 ∨ S 0 9 = s 0 9) (hL : (∀ c i, mL c i → ¬ M c i) ∨ vL S) (hH : (∀ c i, mH c i → ¬ M c i) ∨ vH S) (hHb : (∀ c i, c = 9 ∨ c = 18 ∨ c = 0 ∧ i = 2 → ¬ M c i) ∨ vHb S) (hP : (∀ c i, mP c i → ¬ M c i) ∨ vP S) (hM : (∀ c i, mM c i → ¬ M c i) ∨ vM S) (hT : (∀ c i, mT c i → ¬ M c i) ∨ vT S) (hK : (∀ c i, mK c i → ¬ M c i) ∨ vK S) (hS : (∀ c i, mS c i → ¬ M c i) ∨ vS S) (hX : (∀ c i, mX c i → ¬ M c i) ∨ vX S) (hW : (∀ c i, c = 87 ∨ c = 88 ∨ c = 9 ∨ c = 18 ∨ c = 0 ∧ i = 2 ∨ 46 ≤ c ∧ c ≤ 52 → ¬ M c i) ∨ vW S) (hB : (∀ c i, c = 2 ∨ c = 11 ∨ c = 1 ∧ i = 1 ∨ c = 10 ∧ i = 1 ∨ c = 0 ∧ i = 2 → ¬ M c i) ∨ vB S) : JJ S := by
  obtain ⟨v1, v2, v3, v4, v5, v6, v7, v8, v9, v10, v11⟩ := hj
  refine ⟨hL.elim (fun q => cL (fun c i m => ne c i (q c i m)) v1) id, hH.elim (fun q => cH (fun c i m => ne c i (q c i m)) v2) id, hHb.elim (fun q => ?_) id, hP.elim (fun q => cP (fun c i m => ne c i (q c i m)) v4) id, hM.elim (fun q => cM (fun c i m => ne c i (q c i m)) v5) id, hT.elim (fun q => cT (fun c i m => ne c i (q c i m)) v6) id, hK.elim (fun q => cK (fun c i m => ne c i (q c i m)) v7) id, hS.elim (fun q => cS (fun c i m => ne c i (q c i m)) v8) id, hX.elim (fun q => cX v1.2.2.2.2.2 (fun c i m => ne c i (q c i m)) v9) id, hW.elim (fun q => cW (fun c i m => ne c i (q c i m)) v10) id, hB.elim (fun q => cB (fun c i m => ne c i (q c i m)) v11) id⟩
  have e2 : S 0 2 = s 0 2 := ne 0 2 (q 0 2 (by omega))
  refine ⟨fun i q1 q2 => by rw [ne 9 i (q 9 i (by omega))]; exact v3.1 i q1 q2, fun z i q1 q2 => ?_, by rw [e2]; exact v3.2.2.1, ?_⟩
  · rw [e2] at z
    rw [ne 18 i (q 18 i (by omega))]; exact v3.2.1 z i q1 q2
  · have := v3.2.2.2
    omega
theorem vE.keep {s S : Pl} (h : ∀ c : Nat, c ≤ 9 ∧ c ≠ 0 ∨ 22 ≤ c ∧ c ≤ 43 ∨ 57 ≤ c ∧ c ≤ 67 → S c = s c) (h9 : S 0 9 = s 0 9) (v : vE s) : vE S := by
  obtain ⟨w, hw, hE⟩ := v
  have e1 := h 1 (by omega)
  have e2 := h 2 (by omega)
  have es : stV S = stV s := by unfold stV; rw [e1, e2]
  refine ⟨w, fun c hc => ?_, fun q => ?_⟩
  · have : c ≤ 9 ∧ c ≠ 0 ∨ 22 ≤ c ∧ c ≤ 43 := by unfold stc at hc; simp at hc; omega
    rw [h c (by omega)]; exact hw c hc
  · rw [h9] at q
    obtain ⟨l, c⟩ := hE q
    rw [es, e1]
    refine ⟨?_, c.cong (by rw [h 64 (by omega)]) (by rw [h 64 (by omega)]) (h 66 (by omega)) (h 67 (by omega))⟩
    unfold Lrn at *
    rw [h 57 (by omega), h 59 (by omega), h 61 (by omega)]
    exact l
variable {xs : Nat → Int} {L : Nat} {d : Nat} {s : Pl}
/-- moor -/
theorem J84 {v : Int} (hd : 8 ≤ d) (hI : Inv s) : Ev xs L T0 106 d 84 [rf 1, it v] s (qi fun r s1 => Ev xs L T0 106 d 137 [rf 73, it v] s1 (qi fun r2 s2 => r2 = r ∧ Inv s2)) := by
  refine e84 (by omega) (f84_0 (i126 (by omega) (fun q => ⟨fun _ => ?_, fun z => absurd (by decide) z⟩) (fun q => ⟨fun z => absurd rfl z, fun _ => e137 (by omega) (f137_0 (i134 (by omega) (fun z => absurd z q) (fun _ => ⟨fun z => absurd rfl z, fun _ => ⟨rfl, hI⟩⟩)))⟩)))
  refine e137 (by omega) (f137_0 (i134 (by omega) (fun _ => ⟨fun _ => ⟨?_, ?_⟩, fun z => absurd (by decide) z⟩) (fun z => absurd q z)))
  · rw [zune _ _ _ (by decide), zune _ _ _ (by decide), zune _ _ _ (by decide)]
    exact hI.1.1.1.1
  · have e09 : (zup (zup (zup s 0 9 0) 1 0 v) 72 2 v) 0 9 = 0 := by rw [zg, if_neg (by decide), zg, if_neg (by decide), zg, if_pos ⟨rfl, rfl⟩]
    have ne : ∀ c i, ¬ (c = 1 ∧ i = 0 ∨ c = 72 ∧ i = 2 ∨ c = 0 ∧ i = 9) → (zup (zup (zup s 0 9 0) 1 0 v) 72 2 v) c i = s c i := fun c i q => by
      rw [zg, if_neg (by omega), zg, if_neg (by omega), zg, if_neg (by omega)]
    have e70 : (zup (zup (zup s 0 9 0) 1 0 v) 72 2 v) 72 2 = v := by rw [zg, if_pos ⟨rfl, rfl⟩]
    have e10 : (zup (zup (zup s 0 9 0) 1 0 v) 72 2 v) 1 0 = v := by rw [zg, if_neg (by decide), zg, if_pos ⟨rfl, rfl⟩]
    generalize zup (zup (zup s 0 9 0) 1 0 v) 72 2 v = S at *
    refine Inv.of0 (JJ.chg hI.1 ne (Or.inl e09) (Or.inr ?_) (Or.inl fun c i m => by unfold mH at m; omega) (Or.inl fun c i m => by omega) (Or.inl fun c i m => by unfold mP at m; omega) (Or.inl fun c i m => by unfold mM at m; omega) (Or.inl fun c i m => by unfold mT at m; omega) (Or.inl fun c i m => by unfold mK at m; omega) (Or.inl fun c i m => by unfold mS at m; omega) (Or.inl fun c i m => by unfold mX at m; omega) (Or.inl fun c i m => by omega) (Or.inl fun c i m => by omega)) e09
    obtain ⟨a1, a2, a3, a4, a5, a6⟩ := hI.1.1
    unfold vL
    rw [e70, e10, ne 72 3 (by omega), ne 1 1 (by omega), ne 72 14 (by omega), ne 1 2 (by omega), ne 0 4 (by omega), ne 72 13 (by omega)]
    exact ⟨⟨rfl, q⟩, a2, a3, a4, a5, a6⟩
/-- force -/
theorem J88 {v : Int} (hd : 8 ≤ d) (hI : Inv s) : Ev xs L T0 106 d 88 [rf 1, it v] s (qi fun r s1 => Ev xs L T0 106 d 160 [rf 73, it v] s1 (qi fun r2 s2 => r2 = r ∧ Inv s2)) := by
  obtain ⟨a1, a2, a3, a4, a5, a6⟩ := hI.1.1
  have ez : zw (s 72 13 - 1) = s 0 4 - 1 := by rw [a4, zw_id (by omega) (by omega)]
  have bad : ¬ (0 ≤ v ∧ v < s 0 4) → Ev xs L T0 106 d 160 [rf 73, it v] s (qi fun r2 s2 => r2 = -2 ∧ Inv s2) := fun q => e160 (by omega) (f160_0 (by
    rw [ez]
    exact i132 (by omega) (fun z => absurd (by omega) q) (fun _ => ⟨fun z => absurd rfl z, fun _ => ⟨rfl, hI⟩⟩)))
  refine e88 (by omega) (f88_0 ⟨fun z => bad (by omega), fun z => ⟨fun z2 => ?_, fun z2 => bad (by omega)⟩⟩)
  have ne : ∀ c i, ¬ (c = 1 ∧ i = 2 ∨ c = 72 ∧ i = 14 ∨ c = 0 ∧ i = 9) → (zup (zup (zup s 0 9 0) 1 2 v) 72 14 v) c i = s c i := fun c i q => by
    rw [zg, if_neg (by omega), zg, if_neg (by omega), zg, if_neg (by omega)]
  have ne1 : ∀ c i, ¬ (c = 1 ∧ i = 2 ∨ c = 0 ∧ i = 9) → (zup (zup s 0 9 0) 1 2 v) c i = s c i := fun c i q => by
    rw [zg, if_neg (by omega), zg, if_neg (by omega)]
  refine e160 (by omega) (f160_0 ?_)
  rw [ne1 72 13 (by omega), ez]
  refine i132 (by omega) (fun _ => ⟨fun _ => ⟨?_, ?_⟩, fun z => absurd (by decide) z⟩) (fun z => absurd (by omega) z)
  · rw [ne1 72 14 (by omega), zune _ _ _ (by decide)]
    exact a3.1
  · have e09 : (zup (zup (zup s 0 9 0) 1 2 v) 72 14 v) 0 9 = 0 := by rw [zg, if_neg (by decide), zg, if_neg (by decide), zg, if_pos ⟨rfl, rfl⟩]
    have e70 : (zup (zup (zup s 0 9 0) 1 2 v) 72 14 v) 72 14 = v := by rw [zg, if_pos ⟨rfl, rfl⟩]
    have e10 : (zup (zup (zup s 0 9 0) 1 2 v) 72 14 v) 1 2 = v := by rw [zg, if_neg (by decide), zg, if_pos ⟨rfl, rfl⟩]
    generalize zup (zup (zup s 0 9 0) 1 2 v) 72 14 v = S at *
    refine Inv.of0 (JJ.chg hI.1 ne (Or.inl e09) (Or.inr ?_) (Or.inl fun c i m => by unfold mH at m; omega) (Or.inl fun c i m => by omega) (Or.inl fun c i m => by unfold mP at m; omega) (Or.inl fun c i m => by unfold mM at m; omega) (Or.inl fun c i m => by unfold mT at m; omega) (Or.inl fun c i m => by unfold mK at m; omega) (Or.inl fun c i m => by unfold mS at m; omega) (Or.inl fun c i m => by unfold mX at m; omega) (Or.inl fun c i m => by omega) (Or.inl fun c i m => by omega)) e09
    unfold vL
    rw [e70, e10, ne 72 3 (by omega), ne 1 1 (by omega), ne 72 2 (by omega), ne 1 0 (by omega), ne 0 4 (by omega), ne 72 13 (by omega)]
    exact ⟨a1, a2, ⟨rfl, by omega, by omega⟩, a4, a5, a6⟩
/-- clear -/
theorem J97 (hd : 8 ≤ d) (hI : Inv s) : Ev xs L T0 106 d 97 [rf 1] s (qi fun r s1 => Ev xs L T0 106 d 183 [rf 73] s1 (qi fun r2 s2 => r2 = r ∧ Inv s2)) := by
  refine e97 (by omega) (f97_0 (e183 (by omega) (f183_0 ⟨?_, ?_⟩)))
  · rw [zune _ _ _ (by decide)]
    exact hI.1.2.2.2.2.1.1
  · have ne : ∀ c i, ¬ (c = 68 ∧ i = 4 ∨ c = 72 ∧ i = 29) → (zup (zup s 68 4 0) 72 29 0) c i = s c i := fun c i q => by
      rw [zg, if_neg (by omega), zg, if_neg (by omega)]
    have e70 : (zup (zup s 68 4 0) 72 29 0) 72 29 = 0 := by rw [zg, if_pos ⟨rfl, rfl⟩]
    have e10 : (zup (zup s 68 4 0) 72 29 0) 68 4 = 0 := by rw [zg, if_neg (by decide), zg, if_pos ⟨rfl, rfl⟩]
    generalize zup (zup s 68 4 0) 72 29 0 = S at *
    refine ⟨JJ.chg hI.1 ne (Or.inr (ne 0 9 (by omega))) (Or.inl fun c i m => by unfold mL at m; omega) (Or.inl fun c i m => by unfold mH at m; omega) (Or.inl fun c i m => by omega) (Or.inl fun c i m => by unfold mP at m; omega) (Or.inr ?_) (Or.inl fun c i m => by unfold mT at m; omega) (Or.inl fun c i m => by unfold mK at m; omega) (Or.inl fun c i m => by unfold mS at m; omega) (Or.inl fun c i m => by unfold mX at m; omega) (Or.inl fun c i m => by omega) (Or.inl fun c i m => by omega), hI.2.keep (fun c hc => funext fun i => ne c i (by omega)) (ne 0 9 (by omega))⟩
    unfold vM
    rw [e70, e10]
    exact ⟨rfl, by decide, by decide, fun k q1 q2 => absurd q2 (by omega)⟩
/-- told -/
theorem J92 {v1 v2 : Int} (hd : 8 ≤ d) (hI : Inv s) : Ev xs L T0 106 d 92 [rf 1, it v1, it v2] s (qi fun r s1 => Ev xs L T0 106 d 170 [rf 73, it v1, it v2] s1 (qi fun r2 s2 => r2 = r ∧ Inv s2)) := by
  obtain ⟨a1, a2, a3, a4, a5, a6⟩ := hI.1.1
  refine e92 (by omega) (f92_0 (i2 (by omega) (by omega) (fun q => ⟨fun _ => ?_, fun z => absurd (by decide) z⟩) (fun q => ⟨fun z => absurd rfl z, fun _ => e170 (by omega) (f170_0 (i135 (by omega) (by omega) (fun z => absurd (by omega) q) (fun _ => ⟨fun z => absurd rfl z, fun _ => ⟨rfl, hI⟩⟩)))⟩)))
  have model : ∀ r : Int, ((v2 < 0 ∨ 6 < v2) → r = -7) → (v2 = 0 → r = s 3 v1) → (v2 = 1 → r = s 2 v1) → (v2 = 2 → r = s 4 v1) → (v2 = 3 → r = s 5 v1) → (v2 = 4 → r = s 6 v1) → (v2 = 5 → r = s 7 v1) → (v2 = 6 → r = s 8 v1) → Ev xs L T0 106 d 170 [rf 73, it v1, it v2] s (qi fun r2 s2 => r2 = r ∧ Inv s2) := by
    intro r b1 b2 b3 b4 b5 b6 b7 b8
    obtain ⟨p1, p2, p3, p4, p5, p6, p7⟩ := hI.1.2.2.2.1 v1 q.1 q.2
    refine e170 (by omega) (f170_0 (i135 (by omega) (by omega) (fun _ => ⟨fun _ => ⟨fun z => ⟨(b1 z).symm, hI⟩, fun z => ⟨by omega, by rw [b2 z]; exact p2.1, hI⟩, fun z => ⟨by omega, by rw [b3 z]; exact p1.1, hI⟩, fun z => ⟨by omega, by rw [b4 z]; exact p3.1, hI⟩, fun z => ⟨by omega, by rw [b5 z]; exact p4.1, hI⟩, fun z => ⟨by omega, by rw [b6 z]; exact p5.1, hI⟩, fun z => ⟨by omega, by rw [b7 z]; exact p6.1, hI⟩, fun z => ⟨by omega, by rw [b8 z]; exact p7.1, hI⟩⟩, fun z => absurd (by decide) z⟩) (fun z => absurd (by omega) z)))
  refine ⟨fun z => model _ (fun _ => rfl) (fun y => absurd z (by omega)) (fun y => absurd z (by omega)) (fun y => absurd z (by omega)) (fun y => absurd z (by omega)) (fun y => absurd z (by omega)) (fun y => absurd z (by omega)) (fun y => absurd z (by omega)), fun z => ⟨by omega, model _ (fun y => absurd y (by omega)) (fun y => rfl) (fun y => absurd z (by omega)) (fun y => absurd z (by omega)) (fun y => absurd z (by omega)) (fun y => absurd z (by omega)) (fun y => absurd z (by omega)) (fun y => absurd z (by omega))⟩, fun z => ⟨by omega, model _ (fun y => absurd y (by omega)) (fun y => absurd z (by omega)) (fun y => rfl) (fun y => absurd z (by omega)) (fun y => absurd z (by omega)) (fun y => absurd z (by omega)) (fun y => absurd z (by omega)) (fun y => absurd z (by omega))⟩, fun z => ⟨by omega, model _ (fun y => absurd y (by omega)) (fun y => absurd z (by omega)) (fun y => absurd z (by omega)) (fun y => rfl) (fun y => absurd z (by omega)) (fun y => absurd z (by omega)) (fun y => absurd z (by omega)) (fun y => absurd z (by omega))⟩, fun z => ⟨by omega, model _ (fun y => absurd y (by omega)) (fun y => absurd z (by omega)) (fun y => absurd z (by omega)) (fun y => absurd z (by omega)) (fun y => rfl) (fun y => absurd z (by omega)) (fun y => absurd z (by omega)) (fun y => absurd z (by omega))⟩, fun z => ⟨by omega, model _ (fun y => absurd y (by omega)) (fun y => absurd z (by omega)) (fun y => absurd z (by omega)) (fun y => absurd z (by omega)) (fun y => absurd z (by omega)) (fun y => rfl) (fun y => absurd z (by omega)) (fun y => absurd z (by omega))⟩, fun z => ⟨by omega, model _ (fun y => absurd y (by omega)) (fun y => absurd z (by omega)) (fun y => absurd z (by omega)) (fun y => absurd z (by omega)) (fun y => absurd z (by omega)) (fun y => absurd z (by omega)) (fun y => rfl) (fun y => absurd z (by omega))⟩, fun z => ⟨by omega, model _ (fun y => absurd y (by omega)) (fun y => absurd z (by omega)) (fun y => absurd z (by omega)) (fun y => absurd z (by omega)) (fun y => absurd z (by omega)) (fun y => absurd z (by omega)) (fun y => absurd z (by omega)) (fun y => rfl)⟩⟩
/-- count -/
theorem J85 {v : Int} (hd : 8 ≤ d) (hI : Inv s) : Ev xs L T0 106 d 85 [rf 1, it v] s (qi fun r s1 => Ev xs L T0 106 d 139 [rf 73, it v] s1 (qi fun r2 s2 => r2 = r ∧ Inv s2)) := by
  obtain ⟨a1, a2, a3, a4, a5, a6⟩ := hI.1.1
  obtain ⟨n, hn⟩ : ∃ n : Nat, s 1 1 = (n : Nat) := ⟨(s 1 1).toNat, by omega⟩
  have ht := hI.1.2.2.2.2.2.1.1
  have hm := hI.1.2.2.2.2.1.1
  have model : ∀ r : Int, ((v < 0 ∨ 6 < v) → r = -2) → (v = 0 → r = s 1 0) → (v = 1 → r = s 1 1) → (v = 2 → r = (cnt (fun p => decide (s 2 p = 4)) n : Nat)) → (v = 3 → r = s 68 4) → (v = 4 → r = s 0 4) → (v = 5 → r = s 1 2) → (v = 6 → r = s 53 1) → Ev xs L T0 106 d 139 [rf 73, it v] s (qi fun r2 s2 => r2 = r ∧ Inv s2) := by
    intro r b1 b2 b3 b4 b5 b6 b7 b8
    refine e139 (by omega) (f139_0 ⟨fun z => ⟨(b1 z).symm, hI⟩, fun z => ⟨by rw [b2 z]; exact a1.1, hI⟩, fun z => ⟨by rw [b3 z]; exact a2.1, hI⟩, fun z => (m138 n (by omega) (by omega) (by omega)).i ?_, fun z => ⟨by rw [b5 z]; exact hm, hI⟩, fun z => ⟨by rw [b6 z]; exact a4, hI⟩, fun z => ⟨by rw [b7 z]; exact a3.1, hI⟩, fun z => ⟨by rw [b8 z]; exact ht, hI⟩⟩)
    rintro r2 s2 ⟨rfl, rfl⟩
    refine ⟨?_, hI⟩
    rw [b4 z]
    congr 1
    exact cnt_cong fun p hp => by rw [(hI.1.2.2.2.1 p (by omega) (by omega)).1.1]
  refine e85 (by omega) (f85_0 ⟨fun z => model _ (fun _ => rfl) (fun y => absurd z (by omega)) (fun y => absurd z (by omega)) (fun y => absurd z (by omega)) (fun y => absurd z (by omega)) (fun y => absurd z (by omega)) (fun y => absurd z (by omega)) (fun y => absurd z (by omega)), fun z => model _ (fun y => absurd y (by omega)) (fun y => rfl) (fun y => absurd z (by omega)) (fun y => absurd z (by omega)) (fun y => absurd z (by omega)) (fun y => absurd z (by omega)) (fun y => absurd z (by omega)) (fun y => absurd z (by omega)), fun z => model _ (fun y => absurd y (by omega)) (fun y => absurd z (by omega)) (fun y => rfl) (fun y => absurd z (by omega)) (fun y => absurd z (by omega)) (fun y => absurd z (by omega)) (fun y => absurd z (by omega)) (fun y => absurd z (by omega)), fun z => (m6 n hn (by omega) (by omega)).i ?_, fun z => model _ (fun y => absurd y (by omega)) (fun y => absurd z (by omega)) (fun y => absurd z (by omega)) (fun y => absurd z (by omega)) (fun y => rfl) (fun y => absurd z (by omega)) (fun y => absurd z (by omega)) (fun y => absurd z (by omega)), fun z => model _ (fun y => absurd y (by omega)) (fun y => absurd z (by omega)) (fun y => absurd z (by omega)) (fun y => absurd z (by omega)) (fun y => absurd z (by omega)) (fun y => rfl) (fun y => absurd z (by omega)) (fun y => absurd z (by omega)), fun z => model _ (fun y => absurd y (by omega)) (fun y => absurd z (by omega)) (fun y => absurd z (by omega)) (fun y => absurd z (by omega)) (fun y => absurd z (by omega)) (fun y => absurd z (by omega)) (fun y => rfl) (fun y => absurd z (by omega)), fun z => model _ (fun y => absurd y (by omega)) (fun y => absurd z (by omega)) (fun y => absurd z (by omega)) (fun y => absurd z (by omega)) (fun y => absurd z (by omega)) (fun y => absurd z (by omega)) (fun y => absurd z (by omega)) (fun y => rfl)⟩)
  rintro r2 s2 ⟨rfl, rfl⟩
  refine i228 (btn_lt64 _ (by omega)) (by omega) ?_
  rw [pop_btn _ (by omega)]
  exact model _ (fun y => absurd y (by omega)) (fun y => absurd z (by omega)) (fun y => absurd z (by omega)) (fun y => rfl) (fun y => absurd z (by omega)) (fun y => absurd z (by omega)) (fun y => absurd z (by omega)) (fun y => absurd z (by omega))
