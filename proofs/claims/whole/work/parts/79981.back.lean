/-! back -/
/-- the lake from what was kept -/
def LPT (s S : Pl) : Prop := ∀ a b, S a b = if a = 1 ∧ 0 ≤ b ∧ b ≤ 2 then s 10 b else if 2 ≤ a ∧ a ≤ 8 ∧ 0 ≤ b ∧ b < 6 then s (a + 9) b else if a = 9 ∧ 0 ≤ b ∧ b < 16 then s 18 b else s a b
theorem lpt_at (s : Pl) : LPT s (zcopy (zcopy (zcopy (zcopy (zcopy (zcopy (zcopy (zcopy (zup (zup (zup s 1 0 (s 10 0)) 1 1 (s 10 1)) 1 2 (s 10 2)) 11 0 2 0 6) 12 0 3 0 6) 13 0 4 0 6) 14 0 5 0 6) 15 0 6 0 6) 16 0 7 0 6) 17 0 8 0 6) 18 0 9 0 16) := by
  intro a b
  have hb : (0 : Int) + (b - 0) = b := by omega
  simp only [zc_at, zg, hb]
  have ha : a = 1 ∨ a = 2 ∨ a = 3 ∨ a = 4 ∨ a = 5 ∨ a = 6 ∨ a = 7 ∨ a = 8 ∨ a = 9 ∨ (a < 1 ∨ 9 < a) := by omega
  rcases ha with rfl | rfl | rfl | rfl | rfl | rfl | rfl | rfl | rfl | ha
  · by_cases h0 : b = 0
    · subst h0; simp
    · by_cases h1 : b = 1
      · subst h1; simp
      · by_cases h2 : b = 2
        · subst h2; simp
        · have : ¬ (0 ≤ b ∧ b ≤ 2) := by omega
          simp [h0, h1, h2, this]
  all_goals try (simp; done)
  rw [if_neg (by omega), if_neg (by omega), if_neg (by omega), if_neg (by omega), if_neg (by omega), if_neg (by omega), if_neg (by omega), if_neg (by omega), if_neg (by omega), if_neg (by omega), if_neg (by omega), if_neg (by omega), if_neg (by omega), if_neg (by omega)]
variable {xs : Nat → Int} {L : Nat} {d : Nat} {s : Pl}
theorem i1l {P : Pl → Prop} (hd : 1 ≤ d) (h : ∀ S, LPT s S → P S) : Ev xs L T0 106 d 1 [rf 2, rf 11] s (qv P) := by
  refine e1_lake hd (f1_lake_0 ⟨by omega, by omega, by omega, by omega, by omega, by omega, by omega, by omega, ?_⟩)
  have z1 : ∀ v : Int, zup s 1 0 v 10 = s 10 := fun v => zune _ _ _ (by decide)
  have z2 : ∀ v v2 : Int, zup (zup s 1 0 v) 1 1 v2 10 = s 10 := fun v v2 => by rw [zune _ _ _ (by decide), zune _ _ _ (by decide)]
  rw [z1, z2]
  exact h _ (lpt_at s)
/-- back, the reference's -/
theorem i220 {m : Nat} {P : Int → Pl → Prop} (hd : 1 ≤ d) (h45 : s 72 45 ≠ 0) (h46 : s 72 46 = (m : Nat)) (hm : m ≤ 6) (h : ∀ S : Pl, (∀ (c : Nat) (i : Int), ¬ (c = 72 ∧ (i = 2 ∨ i = 3 ∨ i = 14) ∨ c = 73 ∨ (c = 75 ∨ c = 80) ∧ 0 ≤ i ∧ i < (m : Nat)) → S c i = s c i) → S 72 3 = (m : Nat) → S 72 2 = s 72 47 → S 72 14 = s 72 48 → (∀ i : Int, 0 ≤ i → i < (m : Nat) → S 75 i = s 99 i ∧ S 80 i = s 100 i) → (∀ i : Int, 0 ≤ i → i < 16 → S 73 i = s 101 i) → P (m : Nat) S) : Ev xs L T0 106 d 220 [rf 73] s (qi P) := by
  have l2 : ∀ (j k : Nat) (S : Pl) (v1 : Int), k + j = 16 → v1 = (k : Nat) → (∀ (c : Nat) (i : Int), ¬ (c = 72 ∧ (i = 2 ∨ i = 3 ∨ i = 14) ∨ c = 73 ∨ (c = 75 ∨ c = 80) ∧ 0 ≤ i ∧ i < (m : Nat)) → S c i = s c i) → S 72 3 = (m : Nat) → S 72 2 = s 72 47 → S 72 14 = s 72 48 → (∀ i : Int, 0 ≤ i → i < (m : Nat) → S 75 i = s 99 i ∧ S 80 i = s 100 i) → (∀ i : Int, 0 ≤ i → i < (k : Nat) → S 73 i = s 101 i) → Fr xs L T0 106 (d - 1) 220 76 [some (rf 73), some (it v1)] [] S (qi P) := by
    intro j
    induction j with
    | zero =>
      intro k S v1 hk h1 g1 g2 g3 g4 g6 g7
      have e : k = 16 := by omega
      subst e
      refine f220_76 ⟨fun _ => ?_, fun z => absurd (by omega) z⟩
      rw [g2]
      exact h S g1 g2 g3 g4 g6 (fun i a b => g7 i a (by omega))
    | succ j ih =>
      intro k S v1 hk h1 g1 g2 g3 g4 g6 g7
      subst h1
      have zk : ∀ _ : Unit, zw ((k : Nat) + 1) = ((k + 1 : Nat) : Int) := fun _ => by rw [zw_id (by omega) (by omega)]; omega
      refine f220_76 ⟨fun z => absurd z (by omega), fun _ => ⟨by omega, by omega, ?_⟩⟩
      rw [zk ()]
      refine ih (k + 1) _ _ (by omega) rfl (fun c i q => by rw [zg, if_neg (by omega)]; exact g1 c i q) (by rw [zg, if_neg (by omega)]; exact g2) (by rw [zg, if_neg (by omega)]; exact g3) (by rw [zg, if_neg (by omega)]; exact g4) (fun i a b => by rw [zg, if_neg (by omega), zg, if_neg (by omega)]; exact g6 i a b) (fun i a b => ?_)
      rw [zg]
      by_cases e : i = (k : Nat)
      · subst e; rw [if_pos ⟨rfl, rfl⟩]; exact g1 101 _ (by omega)
      · rw [if_neg (fun q => e q.2)]; exact g7 i a (by omega)
  have l1 : ∀ (j k : Nat) (S : Pl) (v1 : Int), k + j = m → v1 = (k : Nat) → (∀ (c : Nat) (i : Int), ¬ (c = 72 ∧ (i = 2 ∨ i = 3 ∨ i = 14) ∨ c = 73 ∨ (c = 75 ∨ c = 80) ∧ 0 ≤ i ∧ i < (m : Nat)) → S c i = s c i) → S 72 3 = (m : Nat) → S 72 2 = s 72 47 → S 72 14 = s 72 48 → (∀ i : Int, 0 ≤ i → i < (k : Nat) → S 75 i = s 99 i ∧ S 80 i = s 100 i) → Fr xs L T0 106 (d - 1) 220 36 [some (rf 73), some (it v1)] [] S (qi P) := by
    intro j
    induction j with
    | zero =>
      intro k S v1 hk h1 g1 g2 g3 g4 g6
      have e : k = m := by omega
      subst e
      exact f220_36 ⟨fun _ => l2 16 0 S _ (by omega) rfl g1 g2 g3 g4 (fun i a b => g6 i a (by omega)) (fun i a b => absurd b (by omega)), fun z => absurd (by omega) z⟩
    | succ j ih =>
      intro k S v1 hk h1 g1 g2 g3 g4 g6
      subst h1
      have zk : ∀ _ : Unit, zw ((k : Nat) + 1) = ((k + 1 : Nat) : Int) := fun _ => by rw [zw_id (by omega) (by omega)]; omega
      refine f220_36 ⟨fun z => absurd z (by omega), fun _ => ⟨by omega, by omega, by omega, by omega, ?_⟩⟩
      rw [zk ()]
      refine ih (k + 1) _ _ (by omega) rfl (fun c i q => by rw [zg, if_neg (by omega), zg, if_neg (by omega)]; exact g1 c i q) (by rw [zg, if_neg (by omega), zg, if_neg (by omega)]; exact g2) (by rw [zg, if_neg (by omega), zg, if_neg (by omega)]; exact g3) (by rw [zg, if_neg (by omega), zg, if_neg (by omega)]; exact g4) (fun i a b => ?_)
      rw [zg, if_neg (by omega), zg]
      by_cases e : i = (k : Nat)
      · subst e
        rw [if_pos ⟨rfl, rfl⟩, zg, if_pos ⟨rfl, rfl⟩, zg, if_neg (by omega)]
        exact ⟨g1 99 _ (by omega), g1 100 _ (by omega)⟩
      · rw [if_neg (fun q => e q.2), zg, if_neg (fun q => e q.2), zg, if_neg (by omega)]; exact g6 i a (by omega)
  refine e220 (by omega) (f220_0 ⟨fun _ => l1 m 0 _ _ (by omega) rfl (fun c i q => ?_) ?_ ?_ ?_ (fun i a b => absurd b (by omega)), fun z => absurd h45 z⟩)
  · rw [zg, if_neg (by omega), zg, if_neg (by omega), zg, if_neg (by omega)]
  · rw [zg, if_neg (by decide), zg, if_neg (by decide), zg, if_pos ⟨rfl, rfl⟩]; exact h46
  · rw [zg, if_neg (by decide), zg, if_pos ⟨rfl, rfl⟩, zg, if_neg (by decide)]
  · rw [zg, if_pos ⟨rfl, rfl⟩, zg, if_neg (by decide), zg, if_neg (by decide)]
/-- back -/
theorem J116 (hd : 8 ≤ d) (hI : Inv s) : Ev xs L T0 106 d 116 [rf 1] s (qi fun r s1 => Ev xs L T0 106 d 220 [rf 73] s1 (qi fun r2 s2 => r2 = r ∧ Inv s2)) := by
  obtain ⟨a1, a2, a3, a4, a5, a6⟩ := hI.1.1
  obtain ⟨k1, k2⟩ := hI.1.2.2.2.2.2.2.1
  refine e116 (by omega) (f116_0 ⟨fun h02 => ?_, fun h02 => e220 (by omega) (f220_0 ⟨fun z => absurd (by omega) z, fun _ => ⟨rfl, hI⟩⟩)⟩)
  obtain ⟨w1, w2, w3, w4, w5⟩ := k2 h02
  obtain ⟨m, hm⟩ : ∃ m : Nat, s 10 1 = (m : Nat) := ⟨(s 10 1).toNat, by omega⟩
  have z : ∀ c i, ¬ (c = 0 ∧ i = 9) → zup s 0 9 0 c i = s c i := fun c i q => by rw [zg, if_neg q]
  refine i1l (by omega) fun S hS => ?_
  have nS : ∀ c i, ¬ (1 ≤ c ∧ c ≤ 9) → ¬ (c = 0 ∧ i = 9) → S c i = s c i := fun c i q q2 => by rw [hS c i, if_neg (by omega), if_neg (by omega), if_neg (by omega), z c i q2]
  have s11 : S 1 1 = (m : Nat) := by rw [hS 1 1, if_pos (by omega), z 10 1 (by omega)]; exact hm
  rw [s11]
  refine i220 (m := m) (by omega) (by rw [nS 72 45 (by omega) (by omega)]; omega) (by rw [nS 72 46 (by omega) (by omega)]; omega) (by omega) fun S2 g1 g2 g3 g4 g6 g7 => ⟨rfl, ?_⟩
  have e1 : ∀ i : Int, 0 ≤ i → i ≤ 2 → S2 1 i = s 10 i := fun i a b => by rw [g1 1 i (by omega), hS 1 i, if_pos ⟨rfl, a, b⟩, z 10 i (by omega)]
  have e2 : ∀ c : Nat, 2 ≤ c → c ≤ 8 → ∀ i : Int, 0 ≤ i → i < 6 → S2 c i = s (c + 9) i := fun c q1 q2 i a b => by rw [g1 c i (by omega), hS c i, if_neg (by omega), if_pos ⟨q1, q2, a, b⟩, z _ i (by omega)]
  have e9 : ∀ i : Int, 0 ≤ i → i < 16 → S2 9 i = s 18 i := fun i a b => by rw [g1 9 i (by omega), hS 9 i, if_neg (by omega), if_neg (by omega), if_pos ⟨rfl, a, b⟩, z 18 i (by omega)]
  have e09 : S2 0 9 = 0 := by rw [g1 0 9 (by omega), hS 0 9, if_neg (by omega), if_neg (by omega), if_neg (by omega), zg, if_pos ⟨rfl, rfl⟩]
  have ne : ∀ (c : Nat) (i : Int), ¬ (c = 0 ∧ i = 9 ∨ 1 ≤ c ∧ c ≤ 9 ∨ c = 72 ∧ (i = 2 ∨ i = 3 ∨ i = 14) ∨ c = 73 ∨ (c = 75 ∨ c = 80) ∧ 0 ≤ i ∧ i < (m : Nat)) → S2 c i = s c i := fun c i q => by rw [g1 c i (by omega), nS c i (by omega) (by omega)]
  have h3 : S2 72 3 = (m : Nat) := g2
  have h2 : S2 72 2 = s 10 0 := by rw [g3, nS 72 47 (by omega) (by omega)]; exact w1.1
  have h14 : S2 72 14 = s 10 2 := by rw [g4, nS 72 48 (by omega) (by omega)]; exact w3.1
  have hm6 : m ≤ 6 := by omega
  have e11 : S2 1 1 = (m : Nat) := by rw [e1 1 (by omega) (by omega)]; exact hm
  refine Inv.of0 (JJ.chg (M := fun c i => c = 0 ∧ i = 9 ∨ 1 ≤ c ∧ c ≤ 9 ∨ c = 72 ∧ (i = 2 ∨ i = 3 ∨ i = 14) ∨ c = 73 ∨ (c = 75 ∨ c = 80) ∧ 0 ≤ i ∧ i < (m : Nat)) hI.1 ne (Or.inl e09) (Or.inr ?_) (Or.inr ?_) (Or.inr ?_) (Or.inr ?_) (Or.inl fun c i m => by unfold mM at m; omega) (Or.inl fun c i m => by unfold mT at m; omega) (Or.inr ?_) (Or.inl fun c i m => by unfold mS at m; omega) (Or.inl fun c i m => by unfold mX at m; omega) (Or.inr ?_) (Or.inr ?_)) e09
  · unfold vL
    rw [h2, e1 0 (by omega) (by omega), h3, e11, h14, e1 2 (by omega) (by omega), ne 72 13 (by omega), ne 0 4 (by omega)]
    exact ⟨⟨rfl, w1.2⟩, ⟨rfl, by omega, by omega⟩, ⟨rfl, w3.2⟩, a4, a5, a6⟩
  · intro i q1 q2
    rw [g7 i q1 q2, e9 i q1 q2, nS 101 i (by omega) (by omega)]
    exact w4 i q1 q2
  · obtain ⟨u1, u2, u3, u4⟩ := hI.1.2.2.1
    exact ⟨fun i q1 q2 => by rw [e9 i q1 q2]; exact u2 h02 i q1 q2, fun q i q1 q2 => by rw [ne 18 i (by omega)]; exact u2 h02 i q1 q2, by rw [ne 0 2 (by omega)]; exact u3, Or.inl e09⟩
  · intro p q1 q2
    rw [e11] at q2
    obtain ⟨b1, b2, b3, b4, b5, b6, b7⟩ := hI.1.2.2.2.1 p q1 (by omega)
    obtain ⟨c1, c2, c3, c4, c5, c6, c7⟩ := w5 p q1 (by omega)
    unfold vP1
    rw [(g6 p q1 q2).1, (g6 p q1 q2).2, nS 99 p (by omega) (by omega), nS 100 p (by omega) (by omega), e2 2 (by omega) (by omega) p q1 (by omega), e2 3 (by omega) (by omega) p q1 (by omega), e2 4 (by omega) (by omega) p q1 (by omega), e2 5 (by omega) (by omega) p q1 (by omega), e2 6 (by omega) (by omega) p q1 (by omega), e2 7 (by omega) (by omega) p q1 (by omega), e2 8 (by omega) (by omega) p q1 (by omega), ne 74 p (by omega), ne 76 p (by omega), ne 77 p (by omega), ne 78 p (by omega), ne 79 p (by omega)]
    rw [show s (3 + 9) p = s 3 p from c3, show s (4 + 9) p = s 4 p from c4, show s (5 + 9) p = s 5 p from c5, show s (6 + 9) p = s 6 p from c6, show s (7 + 9) p = s 7 p from c7]
    exact ⟨c1, b2, b3, b4, b5, b6, c2⟩
  · refine ⟨by rw [ne 72 45 (by omega), ne 0 2 (by omega)]; exact k1, fun _ => ⟨?_, ?_, ?_, fun i q1 q2 => ?_, fun p q1 q2 => ?_⟩⟩
    · rw [ne 72 47 (by omega), ne 10 0 (by omega)]; exact w1
    · rw [ne 72 46 (by omega), ne 10 1 (by omega), e11]; exact ⟨w2.1, w2.2.1, by omega⟩
    · rw [ne 72 48 (by omega), ne 10 2 (by omega), ne 0 4 (by omega)]; exact w3
    · rw [ne 101 i (by omega), ne 18 i (by omega)]; exact w4 i q1 q2
    · rw [ne 10 1 (by omega)] at q2
      obtain ⟨c1, c2, c3, c4, c5, c6, c7⟩ := w5 p q1 q2
      rw [ne 99 p (by omega), ne 100 p (by omega), ne 11 p (by omega), ne 17 p (by omega), ne 12 p (by omega), ne 13 p (by omega), ne 14 p (by omega), ne 15 p (by omega), ne 16 p (by omega), e2 3 (by omega) (by omega) p q1 (by omega), e2 4 (by omega) (by omega) p q1 (by omega), e2 5 (by omega) (by omega) p q1 (by omega), e2 6 (by omega) (by omega) p q1 (by omega), e2 7 (by omega) (by omega) p q1 (by omega)]
      exact ⟨c1, c2, rfl, rfl, rfl, rfl, rfl⟩
  · obtain ⟨u1, u2, u3, u4, u5⟩ := hI.1.2.2.2.2.2.2.2.2.2.1
    refine ⟨fun i hi => by rw [ne 87 _ (by omega)]; exact u1 i hi, fun i hi => by rw [ne 88 _ (by omega)]; exact u2 i hi, fun a b ha hb => by rw [e9 _ (by omega) (by omega), e9 _ (by omega) (by omega)]; exact u4 h02 a b ha hb, fun _ a b ha hb => by rw [ne 18 _ (by omega), ne 18 _ (by omega)]; exact u4 h02 a b ha hb, fun q hq i q1 q2 => by rw [ne _ i (by omega)]; exact u5 q hq i q1 q2⟩
  · obtain ⟨u1, u2⟩ := hI.1.2.2.2.2.2.2.2.2.2.2
    have u3 := u2 h02
    rw [hm, Int.toNat_natCast] at u3
    refine ⟨?_, fun _ => ?_⟩
    · rw [e11, Int.toNat_natCast, cnt_cong (f := fun p : Nat => decide (S2 2 p = 4)) (g := fun p : Nat => decide (s 11 p = 4)) (fun p hp => by rw [e2 2 (by omega) (by omega) _ (by omega) (by omega)])]
      exact u3
    · rw [ne 10 1 (by omega), hm, Int.toNat_natCast, cnt_cong (f := fun p : Nat => decide (S2 11 p = 4)) (g := fun p : Nat => decide (s 11 p = 4)) (fun p hp => by rw [ne 11 _ (by omega)])]
      exact u3
