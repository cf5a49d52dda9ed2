/-! image -/
theorem zc_at (s : Pl) (k1 : Nat) (i : Int) (k2 : Nat) (j n : Int) (a : Nat) (b : Int) : zcopy s k1 i k2 j n a b = if a = k2 ∧ j ≤ b ∧ b < j + n then s k1 (i + (b - j)) else s a b := by
  unfold zcopy
  by_cases h : a = k2
  · subst h
    by_cases h2 : j ≤ b ∧ b < j + n <;> simp [h2]
  · simp [h]
/-- kept from the lake -/
def KPT (s S : Pl) : Prop := ∀ a b, S a b = if a = 10 ∧ 0 ≤ b ∧ b ≤ 2 then s 1 b else if 11 ≤ a ∧ a ≤ 17 ∧ 0 ≤ b ∧ b < 6 then s (a - 9) b else if a = 18 ∧ 0 ≤ b ∧ b < 16 then s 9 b else s a b
theorem kpt_at (s : Pl) : KPT s (zcopy (zcopy (zcopy (zcopy (zcopy (zcopy (zcopy (zcopy (zup (zup (zup s 10 0 (s 1 0)) 10 1 (s 1 1)) 10 2 (s 1 2)) 2 0 11 0 6) 3 0 12 0 6) 4 0 13 0 6) 5 0 14 0 6) 6 0 15 0 6) 7 0 16 0 6) 8 0 17 0 6) 9 0 18 0 16) := by
  intro a b
  have hb : (0 : Int) + (b - 0) = b := by omega
  simp only [zc_at, zg, hb]
  have ha : a = 10 ∨ a = 11 ∨ a = 12 ∨ a = 13 ∨ a = 14 ∨ a = 15 ∨ a = 16 ∨ a = 17 ∨ a = 18 ∨ (a < 10 ∨ 18 < a) := by omega
  rcases ha with rfl | rfl | rfl | rfl | rfl | rfl | rfl | rfl | rfl | ha
  · by_cases h0 : b = 0
    · subst h0; simp
    · by_cases h1 : b = 1
      · subst h1; simp
      · by_cases h2 : b = 2
        · subst h2; simp
        · have : ¬ (0 ≤ b ∧ b ≤ 2) := by omega
          simp [h0, h1, h2, this]
  all_goals try (simp; done)
  rw [if_neg (by omega), if_neg (by omega), if_neg (by omega), if_neg (by omega), if_neg (by omega), if_neg (by omega), if_neg (by omega), if_neg (by omega), if_neg (by omega), if_neg (by omega), if_neg (by omega), if_neg (by omega), if_neg (by omega), if_neg (by omega)]
variable {xs : Nat → Int} {L : Nat} {d : Nat} {s : Pl}
theorem i1k {P : Pl → Prop} (hd : 1 ≤ d) (h : ∀ S, KPT s S → P S) : Ev xs L T0 106 d 1 [rf 11, rf 2] s (qv P) := by
  refine e1_kept hd (f1_kept_0 ⟨by omega, by omega, by omega, by omega, by omega, by omega, by omega, by omega, ?_⟩)
  have z1 : ∀ v : Int, zup s 10 0 v 1 = s 1 := fun v => zune _ _ _ (by decide)
  have z2 : ∀ v v2 : Int, zup (zup s 10 0 v) 10 1 v2 1 = s 1 := fun v v2 => by rw [zune _ _ _ (by decide), zune _ _ _ (by decide)]
  rw [z1, z2]
  exact h _ (kpt_at s)
/-- image, the reference's -/
theorem i219 {P : Int → Pl → Prop} (hd : 1 ≤ d) (h : ∀ S : Pl, (∀ c i, ¬ (c = 72 ∧ 45 ≤ i ∧ i ≤ 48 ∨ 99 ≤ c ∧ c ≤ 101) → S c i = s c i) → S 72 45 = 1 → S 72 46 = s 72 3 → S 72 47 = s 72 2 → S 72 48 = s 72 14 → (∀ i : Int, 0 ≤ i → i < 6 → S 99 i = s 75 i ∧ S 100 i = s 80 i) → (∀ i : Int, 0 ≤ i → i < 16 → S 101 i = s 73 i) → P (s 72 3) S) : Ev xs L T0 106 d 219 [rf 73] s (qi P) := by
  have l2 : ∀ (j k : Nat) (S : Pl) (v1 : Int), k + j = 16 → v1 = (k : Nat) → (∀ c i, ¬ (c = 72 ∧ 45 ≤ i ∧ i ≤ 48 ∨ 99 ≤ c ∧ c ≤ 101) → S c i = s c i) → S 72 45 = 1 → S 72 46 = s 72 3 → S 72 47 = s 72 2 → S 72 48 = s 72 14 → (∀ i : Int, 0 ≤ i → i < 6 → S 99 i = s 75 i ∧ S 100 i = s 80 i) → (∀ i : Int, 0 ≤ i → i < (k : Nat) → S 101 i = s 73 i) → Fr xs L T0 106 (d - 1) 219 69 [some (rf 73), some (it v1)] [] S (qi P) := by
    intro j
    induction j with
    | zero =>
      intro k S v1 hk h1 g1 g2 g3 g4 g5 g6 g7
      have e : k = 16 := by omega
      subst e
      refine f219_69 ⟨fun _ => ?_, fun z => absurd (by omega) z⟩
      rw [g1 72 3 (by omega)]
      exact h S g1 g2 g3 g4 g5 g6 (fun i a b => g7 i a (by omega))
    | succ j ih =>
      intro k S v1 hk h1 g1 g2 g3 g4 g5 g6 g7
      subst h1
      have zk : ∀ _ : Unit, zw ((k : Nat) + 1) = ((k + 1 : Nat) : Int) := fun _ => by rw [zw_id (by omega) (by omega)]; omega
      refine f219_69 ⟨fun z => absurd z (by omega), fun _ => ⟨by omega, by omega, ?_⟩⟩
      rw [zk ()]
      refine ih (k + 1) _ _ (by omega) rfl (fun c i q => by rw [zg, if_neg (by omega)]; exact g1 c i q) (by rw [zg, if_neg (by omega)]; exact g2) (by rw [zg, if_neg (by omega)]; exact g3) (by rw [zg, if_neg (by omega)]; exact g4) (by rw [zg, if_neg (by omega)]; exact g5) (fun i a b => by rw [zg, if_neg (by omega), zg, if_neg (by omega)]; exact g6 i a b) (fun i a b => ?_)
      rw [zg]
      by_cases e : i = (k : Nat)
      · subst e; rw [if_pos ⟨rfl, rfl⟩]; exact g1 73 _ (by omega)
      · rw [if_neg (fun q => e q.2)]; exact g7 i a (by omega)
  have l1 : ∀ (j k : Nat) (S : Pl) (v1 : Int), k + j = 6 → v1 = (k : Nat) → (∀ c i, ¬ (c = 72 ∧ 45 ≤ i ∧ i ≤ 48 ∨ 99 ≤ c ∧ c ≤ 101) → S c i = s c i) → S 72 45 = 1 → S 72 46 = s 72 3 → S 72 47 = s 72 2 → S 72 48 = s 72 14 → (∀ i : Int, 0 ≤ i → i < (k : Nat) → S 99 i = s 75 i ∧ S 100 i = s 80 i) → Fr xs L T0 106 (d - 1) 219 31 [some (rf 73), some (it v1)] [] S (qi P) := by
    intro j
    induction j with
    | zero =>
      intro k S v1 hk h1 g1 g2 g3 g4 g5 g6
      have e : k = 6 := by omega
      subst e
      exact f219_31 ⟨fun _ => l2 16 0 S _ (by omega) rfl g1 g2 g3 g4 g5 (fun i a b => g6 i a (by omega)) (fun i a b => absurd b (by omega)), fun z => absurd (by omega) z⟩
    | succ j ih =>
      intro k S v1 hk h1 g1 g2 g3 g4 g5 g6
      subst h1
      have zk : ∀ _ : Unit, zw ((k : Nat) + 1) = ((k + 1 : Nat) : Int) := fun _ => by rw [zw_id (by omega) (by omega)]; omega
      refine f219_31 ⟨fun z => absurd z (by omega), fun _ => ⟨by omega, by omega, by omega, by omega, ?_⟩⟩
      rw [zk ()]
      refine ih (k + 1) _ _ (by omega) rfl (fun c i q => by rw [zg, if_neg (by omega), zg, if_neg (by omega)]; exact g1 c i q) (by rw [zg, if_neg (by omega), zg, if_neg (by omega)]; exact g2) (by rw [zg, if_neg (by omega), zg, if_neg (by omega)]; exact g3) (by rw [zg, if_neg (by omega), zg, if_neg (by omega)]; exact g4) (by rw [zg, if_neg (by omega), zg, if_neg (by omega)]; exact g5) (fun i a b => ?_)
      rw [zg, if_neg (by omega), zg]
      by_cases e : i = (k : Nat)
      · subst e
        rw [if_pos ⟨rfl, rfl⟩, zg, if_pos ⟨rfl, rfl⟩, zg, if_neg (by omega)]
        exact ⟨g1 75 _ (by omega), g1 80 _ (by omega)⟩
      · rw [if_neg (fun q => e q.2), zg, if_neg (fun q => e q.2), zg, if_neg (by omega)]; exact g6 i a (by omega)
  refine e219 (by omega) (f219_0 (l1 6 0 _ _ (by omega) rfl (fun c i q => ?_) ?_ ?_ ?_ ?_ (fun i a b => absurd b (by omega))))
  · rw [zg, if_neg (by omega), zg, if_neg (by omega), zg, if_neg (by omega), zg, if_neg (by omega)]
  · rw [zg, if_neg (by decide), zg, if_neg (by decide), zg, if_neg (by decide), zg, if_pos ⟨rfl, rfl⟩]
  · rw [zg, if_neg (by decide), zg, if_neg (by decide), zg, if_pos ⟨rfl, rfl⟩, zg, if_neg (by decide)]
  · rw [zg, if_neg (by decide), zg, if_pos ⟨rfl, rfl⟩, zg, if_neg (by decide), zg, if_neg (by decide)]
  · rw [zg, if_pos ⟨rfl, rfl⟩, zg, if_neg (by decide), zg, if_neg (by decide), zg, if_neg (by decide)]
/-- image -/
theorem J115 (hd : 8 ≤ d) (hI : Inv s) : Ev xs L T0 106 d 115 [rf 1] s (qi fun r s1 => Ev xs L T0 106 d 219 [rf 73] s1 (qi fun r2 s2 => r2 = r ∧ Inv s2)) := by
  obtain ⟨a1, a2, a3, a4, a5, a6⟩ := hI.1.1
  refine e115 (by omega) (f115_0 (i1k (by omega) fun S hS => i219 (by omega) fun S2 g1 g2 g3 g4 g5 g6 g7 => ?_))
  have z : ∀ c i, ¬ (c = 0 ∧ i = 2) → zup S 0 2 1 c i = S c i := fun c i q => by rw [zg, if_neg q]
  have nS : ∀ c i, ¬ (10 ≤ c ∧ c ≤ 18) → S c i = s c i := fun c i q => by rw [hS c i, if_neg (by omega), if_neg (by omega), if_neg (by omega)]
  have e10 : ∀ i : Int, 0 ≤ i → i ≤ 2 → S2 10 i = s 1 i := fun i a b => by rw [g1 10 i (by omega), z 10 i (by omega), hS 10 i, if_pos ⟨rfl, a, b⟩]
  have e11 : ∀ c : Nat, 11 ≤ c → c ≤ 17 → ∀ i : Int, 0 ≤ i → i < 6 → S2 c i = s (c - 9) i := fun c q1 q2 i a b => by rw [g1 c i (by omega), z c i (by omega), hS c i, if_neg (by omega), if_pos ⟨q1, q2, a, b⟩]
  have e18 : ∀ i : Int, 0 ≤ i → i < 16 → S2 18 i = s 9 i := fun i a b => by rw [g1 18 i (by omega), z 18 i (by omega), hS 18 i, if_neg (by omega), if_neg (by omega), if_pos ⟨rfl, a, b⟩]
  have e02 : S2 0 2 = 1 := by rw [g1 0 2 (by omega), zg, if_pos ⟨rfl, rfl⟩]
  have n70 : ∀ i, zup S 0 2 1 72 i = s 72 i := fun i => by rw [z 72 i (by omega), nS 72 i (by omega)]
  have ne : ∀ c i, ¬ (c = 0 ∧ i = 2 ∨ 10 ≤ c ∧ c ≤ 18 ∨ c = 72 ∧ 45 ≤ i ∧ i ≤ 48 ∨ 99 ≤ c ∧ c ≤ 101) → S2 c i = s c i := fun c i q => by rw [g1 c i (by omega), z c i (by omega), nS c i (by omega)]
  rw [n70] at g3 g4 g5
  have hn : 0 ≤ s 1 1 ∧ s 1 1 ≤ 6 := a2.2
  refine ⟨by rw [n70, z 1 1 (by omega), nS 1 1 (by omega)]; exact a2.1, JJ.chg hI.1 ne (Or.inr (ne 0 9 (by omega))) (Or.inl fun c i m => by unfold mL at m; omega) (Or.inl fun c i m => by unfold mH at m; omega) (Or.inr ?_) (Or.inl fun c i m => by unfold mP at m; omega) (Or.inl fun c i m => by unfold mM at m; omega) (Or.inl fun c i m => by unfold mT at m; omega) (Or.inr ?_) (Or.inl fun c i m => by unfold mS at m; omega) (Or.inl fun c i m => by unfold mX at m; omega) (Or.inr ?_) (Or.inr ?_), hI.2.keep (fun c hc => funext fun i => ne c i (by omega)) (ne 0 9 (by omega))⟩
  · obtain ⟨w1, w2, w3, w4⟩ := hI.1.2.2.1
    exact ⟨fun i q1 q2 => by rw [ne 9 i (by omega)]; exact w1 i q1 q2, fun _ i q1 q2 => by rw [e18 i q1 q2]; exact w1 i q1 q2, Or.inr e02, by rw [ne 0 9 (by omega)]; exact w4⟩
  · refine ⟨by rw [g2, e02], fun _ => ⟨?_, ?_, ?_, fun i q1 q2 => ?_, fun p q1 q2 => ?_⟩⟩
    · rw [g4, e10 0 (by omega) (by omega)]; exact a1
    · rw [g3, e10 1 (by omega) (by omega), ne 1 1 (by omega)]; exact ⟨a2.1, a2.2.1, Int.le_refl _⟩
    · rw [g5, e10 2 (by omega) (by omega), ne 0 4 (by omega)]; exact a3
    · rw [g7 i q1 q2, e18 i q1 q2, z 73 i (by omega), nS 73 i (by omega)]; exact hI.1.2.1 i q1 q2
    · rw [e10 1 (by omega) (by omega)] at q2
      obtain ⟨b1, b2, b3, b4, b5, b6, b7⟩ := hI.1.2.2.2.1 p q1 q2
      rw [(g6 p q1 (by omega)).1, (g6 p q1 (by omega)).2, z 75 p (by omega), nS 75 p (by omega), z 80 p (by omega), nS 80 p (by omega), e11 11 (by omega) (by omega) p q1 (by omega), e11 17 (by omega) (by omega) p q1 (by omega), e11 12 (by omega) (by omega) p q1 (by omega), e11 13 (by omega) (by omega) p q1 (by omega), e11 14 (by omega) (by omega) p q1 (by omega), e11 15 (by omega) (by omega) p q1 (by omega), e11 16 (by omega) (by omega) p q1 (by omega), ne 3 p (by omega), ne 4 p (by omega), ne 5 p (by omega), ne 6 p (by omega), ne 7 p (by omega)]
      exact ⟨b1, b7, rfl, rfl, rfl, rfl, rfl⟩
  · obtain ⟨w1, w2, w3, w4, w5⟩ := hI.1.2.2.2.2.2.2.2.2.2.1
    refine ⟨fun i hi => by rw [ne 87 _ (by omega)]; exact w1 i hi, fun i hi => by rw [ne 88 _ (by omega)]; exact w2 i hi, fun a b ha hb => by rw [ne 9 _ (by omega), ne 9 _ (by omega)]; exact w3 a b ha hb, fun _ a b ha hb => ?_, fun q hq i q1 q2 => by rw [ne _ i (by omega)]; exact w5 q hq i q1 q2⟩
    rw [e18 _ (by omega) (by omega), e18 _ (by omega) (by omega)]
    exact w3 a b ha hb
  · obtain ⟨w1, w2⟩ := hI.1.2.2.2.2.2.2.2.2.2.2
    refine ⟨?_, fun _ => ?_⟩
    · rw [ne 1 1 (by omega), cnt_cong (f := fun p : Nat => decide (S2 2 p = 4)) (g := fun p : Nat => decide (s 2 p = 4)) (fun p _ => by rw [ne 2 _ (by omega)])]
      exact w1
    · rw [e10 1 (by omega) (by omega), cnt_cong (f := fun p : Nat => decide (S2 11 p = 4)) (g := fun p : Nat => decide (s 2 p = 4)) (fun p hp => by rw [e11 11 (by omega) (by omega) _ (by omega) (by omega)])]
      exact w1
