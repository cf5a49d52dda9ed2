/-! one more of PEOPLE -/
def pad (s : Pl) (n : Nat) (k p to b wo ot : Int) : Pl := zup (zup (zup (zup (zup (zup (zup (zup s 1 1 ((n + 1 : Nat) : Int)) 3 (n : Nat) k) 2 (n : Nat) p) 4 (n : Nat) to) 5 (n : Nat) b) 6 (n : Nat) wo) 7 (n : Nat) ot) 8 (n : Nat) 0
def pdv (c : Nat) (k p to b wo ot : Int) : Int := if c = 2 then p else if c = 3 then k else if c = 4 then to else if c = 5 then b else if c = 6 then wo else if c = 7 then ot else 0
theorem pad_at (s : Pl) (n : Nat) (k p to b wo ot : Int) (c : Nat) (i : Int) : pad s n k p to b wo ot c i = if c = 1 ∧ i = 1 then ((n + 1 : Nat) : Int) else if 2 ≤ c ∧ c ≤ 8 ∧ i = (n : Nat) then pdv c k p to b wo ot else s c i := by
  unfold pad
  simp only [zg]
  by_cases e : i = (n : Nat)
  · have hc : c = 1 ∨ c = 2 ∨ c = 3 ∨ c = 4 ∨ c = 5 ∨ c = 6 ∨ c = 7 ∨ c = 8 ∨ (c = 0 ∨ 9 ≤ c) := by omega
    rcases hc with rfl | rfl | rfl | rfl | rfl | rfl | rfl | rfl | hc
    · simp
    · simp [e, pdv]
    · simp [e, pdv]
    · simp [e, pdv]
    · simp [e, pdv]
    · simp [e, pdv]
    · simp [e, pdv]
    · simp [e, pdv]
    · rw [if_neg (by omega), if_neg (by omega), if_neg (by omega), if_neg (by omega), if_neg (by omega), if_neg (by omega), if_neg (by omega), if_neg (by omega), if_neg (by omega), if_neg (by omega)]
  · rw [if_neg (fun q => e q.2), if_neg (fun q => e q.2), if_neg (fun q => e q.2), if_neg (fun q => e q.2), if_neg (fun q => e q.2), if_neg (fun q => e q.2), if_neg (fun q => e q.2)]
    by_cases e2 : c = 1 ∧ i = 1
    · rw [if_pos e2, if_pos e2]
    · rw [if_neg e2, if_neg e2, if_neg (fun q => e q.2.2)]
/-- the same in the reference -/
def padM (s : Pl) (n : Nat) (k p to b wo ot : Int) : Pl := zup (zup (zup (zup (zup (zup (zup (zup s 74 (n : Nat) k) 75 (n : Nat) p) 76 (n : Nat) to) 77 (n : Nat) b) 78 (n : Nat) wo) 79 (n : Nat) ot) 80 (n : Nat) 0) 72 3 ((n + 1 : Nat) : Int)
def pdm (c : Nat) (k p to b wo ot : Int) : Int := if c = 74 then k else if c = 75 then p else if c = 76 then to else if c = 77 then b else if c = 78 then wo else if c = 79 then ot else 0
theorem padM_at (s : Pl) (n : Nat) (k p to b wo ot : Int) (c : Nat) (i : Int) : padM s n k p to b wo ot c i = if c = 72 ∧ i = 3 then ((n + 1 : Nat) : Int) else if 74 ≤ c ∧ c ≤ 80 ∧ i = (n : Nat) then pdm c k p to b wo ot else s c i := by
  unfold padM
  simp only [zg]
  by_cases e : i = (n : Nat)
  · have hc : c = 74 ∨ c = 75 ∨ c = 76 ∨ c = 77 ∨ c = 78 ∨ c = 79 ∨ c = 80 ∨ (c < 74 ∨ 81 ≤ c) := by omega
    rcases hc with rfl | rfl | rfl | rfl | rfl | rfl | rfl | hc
    · simp [e, pdm]
    · simp [e, pdm]
    · simp [e, pdm]
    · simp [e, pdm]
    · simp [e, pdm]
    · simp [e, pdm]
    · simp [e, pdm]
    · by_cases e2 : c = 72 ∧ i = 3
      · rw [if_pos e2, if_pos e2]
      · rw [if_neg e2, if_neg e2, if_neg (by omega), if_neg (by omega), if_neg (by omega), if_neg (by omega), if_neg (by omega), if_neg (by omega), if_neg (by omega), if_neg (by omega)]
  · by_cases e2 : c = 72 ∧ i = 3
    · rw [if_pos e2, if_pos e2]
    · rw [if_neg e2, if_neg e2, if_neg (fun q => e q.2), if_neg (fun q => e q.2), if_neg (fun q => e q.2), if_neg (fun q => e q.2), if_neg (fun q => e q.2), if_neg (fun q => e q.2), if_neg (fun q => e q.2), if_neg (fun q => e q.2.2)]
theorem z7072 (s : Pl) (i v : Int) : zup s 74 i v 72 3 = s 72 3 := by rw [zune _ _ _ (by decide)]
theorem z7073 (s : Pl) (i v : Int) : zup s 75 i v 72 3 = s 72 3 := by rw [zune _ _ _ (by decide)]
theorem z7074 (s : Pl) (i v : Int) : zup s 76 i v 72 3 = s 72 3 := by rw [zune _ _ _ (by decide)]
theorem z7075 (s : Pl) (i v : Int) : zup s 77 i v 72 3 = s 72 3 := by rw [zune _ _ _ (by decide)]
theorem z7076 (s : Pl) (i v : Int) : zup s 78 i v 72 3 = s 72 3 := by rw [zune _ _ _ (by decide)]
theorem z7077 (s : Pl) (i v : Int) : zup s 79 i v 72 3 = s 72 3 := by rw [zune _ _ _ (by decide)]
theorem z7078 (s : Pl) (i v : Int) : zup s 80 i v 72 3 = s 72 3 := by rw [zune _ _ _ (by decide)]
theorem z7070 (s : Pl) (v : Int) : zup s 72 3 v 72 3 = v := by rw [zg, if_pos ⟨rfl, rfl⟩]
variable {xs : Nat → Int} {L : Nat} {d : Nat} {s : Pl}
theorem i3 {n : Nat} {k ot : Int} {ways bw : Nat} {P : Pl → Prop} (hd : 1 ≤ d) (hn : n < 6) (h1 : s 1 1 = (n : Nat)) (hw : ways < 100) (hb : bw < 10000) (h : P (pad s n k ((ways / 10 : Nat) : Int) ((ways % 10 : Nat) : Int) ((bw / 100 : Nat) : Int) ((bw % 100 : Nat) : Int) ot)) : Ev xs L T0 106 d 3 [rf 2, it k, it (ways : Nat), it (bw : Nat), it ot] s (qv P) := by
  have e1 : zw ((n : Nat) + 1) = ((n + 1 : Nat) : Int) := by rw [zw_id (by omega) (by omega)]; omega
  refine e3 hd (f3_0 ?_)
  rw [h1, e1, show (10 : Int) = ((10 : Nat) : Int) from rfl, show (100 : Int) = ((100 : Nat) : Int) from rfl, zdiv_nat (by omega) (by decide) (by decide), zrem_nat (by omega) (by decide) (by decide), zdiv_nat (by omega) (by decide) (by decide), zrem_nat (by omega) (by decide) (by decide)]
  exact ⟨fun z => absurd z (by omega), fun _ => ⟨fun _ => ⟨by omega, by omega, by omega, by omega, by omega, by omega, by omega, h⟩, fun z => absurd (by omega) z⟩⟩
theorem q168 {n : Nat} {k ot : Int} {ways bw : Nat} {P : Int → Pl → Prop} (hn : n < 6) (h1 : s 72 3 = (n : Nat)) (hw : ways < 100) (hb : bw < 10000) (h : P (n : Nat) (padM s n k ((ways / 10 : Nat) : Int) ((ways % 10 : Nat) : Int) ((bw / 100 : Nat) : Int) ((bw % 100 : Nat) : Int) ot)) : Fr xs L T0 106 d 168 91 [some (rf 73), some (it k), some (it (ways : Nat)), some (it (bw : Nat)), some (it ot)] [] s (qi P) := by
  have e1 : zw ((n : Nat) + 1) = ((n + 1 : Nat) : Int) := by rw [zw_id (by omega) (by omega)]; omega
  have e2 : zw (((n + 1 : Nat) : Int) - 1) = (n : Nat) := by rw [zw_id (by omega) (by omega)]; omega
  have e3 : zdiv (ways : Nat) 10 = ((ways / 10 : Nat) : Int) := by rw [show (10 : Int) = ((10 : Nat) : Int) from rfl, zdiv_nat (by omega) (by decide) (by decide)]
  have e4 : zrem (ways : Nat) 10 = ((ways % 10 : Nat) : Int) := by rw [show (10 : Int) = ((10 : Nat) : Int) from rfl, zrem_nat (by omega) (by decide) (by decide)]
  have e5 : zdiv (bw : Nat) 100 = ((bw / 100 : Nat) : Int) := by rw [show (100 : Int) = ((100 : Nat) : Int) from rfl, zdiv_nat (by omega) (by decide) (by decide)]
  have e6 : zrem (bw : Nat) 100 = ((bw % 100 : Nat) : Int) := by rw [show (100 : Int) = ((100 : Nat) : Int) from rfl, zrem_nat (by omega) (by decide) (by decide)]
  refine f168_91 ?_
  simp only [z7072, z7073, z7074, z7075, z7076, z7077, z7078, z7070, h1, e1, e2, e3, e4, e5, e6]
  exact ⟨by omega, by omega, by omega, by omega, by omega, by omega, by omega, h⟩
/-- a change that keeps what holds between the calls: nothing explored -/
theorem Inv.of0 {s : Pl} (hj : JJ s) (h0 : s 0 9 = 0) : Inv s := ⟨hj, s, fun _ _ => rfl, fun q => absurd h0 q⟩
theorem JJ.padd {s : Pl} {n : Nat} {k p to b wo ot : Int} (hj : JJ s) (h1 : s 1 1 = (n : Nat)) (hn : n < 6) (hk : 0 ≤ k ∧ k ≤ 5) (hp : 0 ≤ p ∧ p ≤ 4) (hto : 0 ≤ to ∧ to < 4) (hb : 0 ≤ b ∧ b ≤ 99) (hwo : 0 ≤ wo ∧ wo ≤ 99) (hot : 0 ≤ ot ∧ ot < 6) (h3 : p = 4 → cnt (fun q => decide (s 2 q = 4)) n < 3) : JJ (padM (zup (pad s n k p to b wo ot) 0 9 0) n k p to b wo ot) := by
  have at9 : ∀ c i, padM (zup (pad s n k p to b wo ot) 0 9 0) n k p to b wo ot c i = if c = 72 ∧ i = 3 then ((n + 1 : Nat) : Int) else if 74 ≤ c ∧ c ≤ 80 ∧ i = (n : Nat) then pdm c k p to b wo ot else if c = 0 ∧ i = 9 then 0 else if c = 1 ∧ i = 1 then ((n + 1 : Nat) : Int) else if 2 ≤ c ∧ c ≤ 8 ∧ i = (n : Nat) then pdv c k p to b wo ot else s c i := fun c i => by
    rw [padM_at, zg, pad_at]
  generalize padM (zup (pad s n k p to b wo ot) 0 9 0) n k p to b wo ot = S at at9
  have ne : ∀ (c : Nat) (i : Int), ¬ (c = 72 ∧ i = 3) → ¬ (74 ≤ c ∧ c ≤ 80 ∧ i = (n : Nat)) → ¬ (c = 0 ∧ i = 9) → ¬ (c = 1 ∧ i = 1) → ¬ (2 ≤ c ∧ c ≤ 8 ∧ i = (n : Nat)) → S c i = s c i := fun c i a b e f g => by rw [at9, if_neg a, if_neg b, if_neg e, if_neg f, if_neg g]
  have e703 : S 72 3 = ((n + 1 : Nat) : Int) := by rw [at9, if_pos ⟨rfl, rfl⟩]
  have e11 : S 1 1 = ((n + 1 : Nat) : Int) := by rw [at9, if_neg (by omega), if_neg (by omega), if_neg (by omega), if_pos ⟨rfl, rfl⟩]
  have e09 : S 0 9 = 0 := by rw [at9, if_neg (by omega), if_neg (by omega), if_pos ⟨rfl, rfl⟩]
  have ep : ∀ c, 2 ≤ c → c ≤ 8 → S c (n : Nat) = pdv c k p to b wo ot := fun c q1 q2 => by rw [at9, if_neg (by omega), if_neg (by omega), if_neg (by omega), if_neg (by omega), if_pos ⟨q1, q2, rfl⟩]
  have em : ∀ c, 74 ≤ c → c ≤ 80 → S c (n : Nat) = pdm c k p to b wo ot := fun c q1 q2 => by rw [at9, if_neg (by omega), if_pos ⟨q1, q2, rfl⟩]
  have eo : ∀ (c : Nat) (i : Int), i ≠ (n : Nat) → 2 ≤ c → c ≤ 8 ∨ 74 ≤ c → ¬ (c = 72 ∧ i = 3) → S c i = s c i := fun c i q q1 q2 q3 => ne c i q3 (by omega) (by omega) (by omega) (by omega)
  obtain ⟨v1, v2, v3, v4, v5, v6, v7, v8, v9, v10, v11⟩ := hj
  have h4 := v1.2.2.2.2.2
  refine ⟨?_, cH (fun c i m => ne c i ?_ ?_ ?_ ?_ ?_) v2, ?_, ?_, cM (fun c i m => ne c i ?_ ?_ ?_ ?_ ?_) v5, cT (fun c i m => ne c i ?_ ?_ ?_ ?_ ?_) v6, ?_, cS (fun c i m => ne c i ?_ ?_ ?_ ?_ ?_) v8, cX h4 (fun c i m => ne c i ?_ ?_ ?_ ?_ ?_) v9, cW (fun c i m => ne c i ?_ ?_ ?_ ?_ ?_) v10, ?_⟩
  · obtain ⟨⟨b1, b2, b3⟩, ⟨p1, p2, p3⟩, ⟨l1, l2, l3⟩, t1, t2, t3⟩ := v1
    unfold vL
    rw [e703, e11, ne 72 2 (by omega) (by omega) (by omega) (by omega) (by omega), ne 1 0 (by omega) (by omega) (by omega) (by omega) (by omega), ne 72 14 (by omega) (by omega) (by omega) (by omega) (by omega), ne 1 2 (by omega) (by omega) (by omega) (by omega) (by omega), ne 72 13 (by omega) (by omega) (by omega) (by omega) (by omega), ne 0 4 (by omega) (by omega) (by omega) (by omega) (by omega)]
    exact ⟨⟨b1, b2, b3⟩, ⟨rfl, by omega, by omega⟩, ⟨l1, l2, l3⟩, t1, t2, t3⟩
  any_goals (first | (unfold mH at m; omega) | (unfold mM at m; omega) | (unfold mT at m; omega) | (unfold mS at m; omega) | (unfold mX at m; omega) | omega)
  · refine ⟨fun i q1 q2 => by rw [ne 9 i (by omega) (by omega) (by omega) (by omega) (by omega)]; exact v3.1 i q1 q2, fun q i q1 q2 => ?_, ?_, Or.inl e09⟩
    · rw [ne 0 2 (by omega) (by omega) (by omega) (by omega) (by omega)] at q
      rw [ne 18 i (by omega) (by omega) (by omega) (by omega) (by omega)]
      exact v3.2.1 q i q1 q2
    · rw [ne 0 2 (by omega) (by omega) (by omega) (by omega) (by omega)]; exact v3.2.2.1
  · intro q q0 q1
    rw [e11] at q1
    by_cases e : q = (n : Nat)
    · subst e
      unfold vP1
      rw [ep 2 (by omega) (by omega), ep 3 (by omega) (by omega), ep 4 (by omega) (by omega), ep 5 (by omega) (by omega), ep 6 (by omega) (by omega), ep 7 (by omega) (by omega), ep 8 (by omega) (by omega), em 74 (by omega) (by omega), em 75 (by omega) (by omega), em 76 (by omega) (by omega), em 77 (by omega) (by omega), em 78 (by omega) (by omega), em 79 (by omega) (by omega), em 80 (by omega) (by omega)]
      exact ⟨⟨rfl, hp⟩, ⟨rfl, hk⟩, ⟨rfl, hto⟩, ⟨rfl, hb⟩, ⟨rfl, hwo⟩, ⟨rfl, hot⟩, rfl, by show (0 : Int) ≤ 0; decide, by show (0 : Int) < 64; decide⟩
    · have := v4 q q0 (by omega)
      unfold vP1 at *
      rw [eo 2 q e (by omega) (by omega) (by omega), eo 3 q e (by omega) (by omega) (by omega), eo 4 q e (by omega) (by omega) (by omega), eo 5 q e (by omega) (by omega) (by omega), eo 6 q e (by omega) (by omega) (by omega), eo 7 q e (by omega) (by omega) (by omega), eo 8 q e (by omega) (by omega) (by omega), eo 74 q e (by omega) (by omega) (by omega), eo 75 q e (by omega) (by omega) (by omega), eo 76 q e (by omega) (by omega) (by omega), eo 77 q e (by omega) (by omega) (by omega), eo 78 q e (by omega) (by omega) (by omega), eo 79 q e (by omega) (by omega) (by omega), eo 80 q e (by omega) (by omega) (by omega)]
      exact this
  · have g : ∀ (c : Nat) (i : Int), c = 0 ∧ (i = 2 ∨ i = 4) ∨ 10 ≤ c ∧ c ≤ 18 ∨ c = 72 ∧ 45 ≤ i ∧ i ≤ 48 ∨ 99 ≤ c ∧ c ≤ 101 → S c i = s c i := fun c i m => ne c i (by omega) (by omega) (by omega) (by omega) (by omega)
    refine ⟨by rw [g 72 45 (by omega), g 0 2 (by omega)]; exact v7.1, fun q => ?_⟩
    rw [g 0 2 (by omega)] at q
    obtain ⟨w1, w2, w3, w4, w5⟩ := v7.2 q
    unfold vK1
    rw [g 72 47 (by omega), g 10 0 (by omega), g 72 46 (by omega), g 10 1 (by omega), g 72 48 (by omega), g 10 2 (by omega), g 0 4 (by omega), e11]
    refine ⟨w1, ⟨w2.1, w2.2.1, by omega⟩, w3, fun i q0 q1 => by rw [g 101 i (by omega), g 18 i (by omega)]; exact w4 i q0 q1, fun p0 q0 q1 => ?_⟩
    have e : p0 ≠ (n : Nat) := by omega
    rw [g 99 p0 (by omega), g 11 p0 (by omega), g 100 p0 (by omega), g 17 p0 (by omega), g 12 p0 (by omega), g 13 p0 (by omega), g 14 p0 (by omega), g 15 p0 (by omega), g 16 p0 (by omega), eo 3 p0 e (by omega) (by omega) (by omega), eo 4 p0 e (by omega) (by omega) (by omega), eo 5 p0 e (by omega) (by omega) (by omega), eo 6 p0 e (by omega) (by omega) (by omega), eo 7 p0 e (by omega) (by omega) (by omega)]
    exact w5 p0 q0 q1
  · refine ⟨?_, fun q => ?_⟩
    · rw [e11, Int.toNat_natCast]
      simp only [cnt]
      have e : cnt (fun q => decide (S 2 q = 4)) n = cnt (fun q => decide (s 2 q = 4)) n := cnt_cong fun q hq => by rw [eo 2 q (by omega) (by omega) (by omega) (by omega)]
      have hb3 := v11.1
      rw [h1, Int.toNat_natCast] at hb3
      rw [e]
      by_cases e4 : p = 4
      · have := h3 e4
        split <;> omega
      · rw [if_neg (by rw [ep 2 (by omega) (by omega)]; simp [pdv, e4])]; omega
    · rw [ne 0 2 (by omega) (by omega) (by omega) (by omega) (by omega)] at q
      have := v11.2 q
      rw [ne 10 1 (by omega) (by omega) (by omega) (by omega) (by omega), cnt_cong (f := fun p => decide (S 11 p = 4)) (g := fun p => decide (s 11 p = 4)) (fun p _ => by rw [ne 11 _ (by omega) (by omega) (by omega) (by omega) (by omega)])]
      exact this
/-- person -/
theorem r90 {v1 v2 v3 v4 : Int} {P : Int → Pl → Prop} (hd : 1 ≤ d) (h2 : v2 < 2147483648) (hb : ¬ ((0 ≤ v1 ∧ v1 ≤ 5) ∧ (0 ≤ v2 ∧ v2 < 50 ∧ v2 % 10 < 4) ∧ (0 ≤ v3 ∧ v3 ≤ 9999) ∧ 0 ≤ v4 ∧ v4 < 6) → P (-2) s) (hg : (0 ≤ v1 ∧ v1 ≤ 5) ∧ (0 ≤ v2 ∧ v2 < 50 ∧ v2 % 10 < 4) ∧ (0 ≤ v3 ∧ v3 ≤ 9999) ∧ (0 ≤ v4 ∧ v4 < 6) → (s 1 1 < 6 → (¬ v2 / 10 = 4 → Fr xs L T0 106 (d - 1) 90 121 [some (rf 1), some (it v1), some (it v2), some (it v3), some (it v4), some (it 1), some (it 1)] [] s (qi P)) ∧ (v2 / 10 = 4 → Ev xs L T0 106 (d - 1) 6 [rf 2, it 4] s (qi fun r2 s1 => Ev xs L T0 106 (d - 1) 228 [it r2] s1 (qi fun r4 s3 => ((r4 < 3 → Fr xs L T0 106 (d - 1) 90 121 [some (rf 1), some (it v1), some (it v2), some (it v3), some (it v4), some (it 1), some (it 1)] [] s3 (qi P)) ∧ (¬ (r4 < 3) → P (-3) s3)))))) ∧ (¬ s 1 1 < 6 → P (-4) s)) : Ev xs L T0 106 d 90 [rf 1, it v1, it v2, it v3, it v4] s (qi P) := by
  have q42 : ∀ a b : Int, (a = 0 ∨ b = 0) ∧ ¬ ((0 ≤ v1 ∧ v1 ≤ 5) ∧ (0 ≤ v2 ∧ v2 < 50 ∧ v2 % 10 < 4)) ∨ (a = 1 ∧ b = 1 ∧ (0 ≤ v1 ∧ v1 ≤ 5) ∧ (0 ≤ v2 ∧ v2 < 50 ∧ v2 % 10 < 4)) → Fr xs L T0 106 (d - 1) 90 42 [some (rf 1), some (it v1), some (it v2), some (it v3), some (it v4), some (it a), none] [it b] s (qi P) := by
    rintro a b (⟨q1, q2⟩ | ⟨rfl, rfl, q1, q2⟩)
    · have hB : P (-2) s := hb fun q => q2 ⟨q.1, q.2.1⟩
      refine f90_42 ⟨fun _ => hB, fun z1 => ⟨fun _ => hB, fun z2 => ?_⟩⟩
      rcases q1 with q | q
      · exact absurd q z1
      · exact absurd q z2
    · refine f90_42 ⟨fun z => absurd z (by decide), fun _ => ⟨fun z => absurd z (by decide), fun _ => ⟨fun z => hb fun q => by omega, fun z3 => ⟨fun z => hb fun q => by omega, fun z4 => ⟨fun z => hb fun q => by omega, fun z5 => ⟨fun z6 => ?_, fun z => hb fun q => by omega⟩⟩⟩⟩⟩⟩
      rw [zdiv_pos q2.1 h2 (by decide) (by decide)]
      have hG := hg ⟨q1, q2, ⟨by omega, by omega⟩, by omega, by omega⟩
      exact ⟨fun z7 => ⟨fun z8 => (hG.1 z7).1 z8, fun z8 => (hG.1 z7).2 (Classical.not_not.mp z8)⟩, fun z7 => hG.2 z7⟩
  have q15 : ∀ a : Int, (a = 0 ∧ ¬ (0 ≤ v1 ∧ v1 ≤ 5)) ∨ (a = 1 ∧ 0 ≤ v1 ∧ v1 ≤ 5) → Fr xs L T0 106 (d - 1) 90 15 [some (rf 1), some (it v1), some (it v2), some (it v3), some (it v4), none, none] [it a] s (qi P) := by
    intro a ha
    have bad : ¬ (0 ≤ v2 ∧ v2 < 50 ∧ v2 % 10 < 4) → Fr xs L T0 106 (d - 1) 90 41 [some (rf 1), some (it v1), some (it v2), some (it v3), some (it v4), some (it a), none] [] s (qi P) := fun hb2 => f90_41 (q42 a 0 (Or.inl ⟨Or.inr rfl, fun q => hb2 q.2⟩))
    refine f90_15 ⟨fun z => bad (by omega), fun z1 => ?_⟩
    rw [zdiv_pos (by omega) h2 (by decide) (by decide), zrem_pos (by omega) h2 (by decide) (by decide)]
    refine ⟨fun z => bad (by omega), fun z2 => ⟨fun z => bad (by omega), fun z3 => q42 a 1 ?_⟩⟩
    rcases ha with ⟨q1, q2⟩ | ⟨q1, q2⟩
    · exact Or.inl ⟨Or.inl q1, fun q => q2 q.1⟩
    · exact Or.inr ⟨q1, rfl, q2, by omega⟩
  exact e90 hd (f90_0 ⟨fun z => f90_14 (q15 0 (Or.inl ⟨rfl, by omega⟩)), fun z1 => ⟨fun z => f90_14 (q15 0 (Or.inl ⟨rfl, by omega⟩)), fun z2 => q15 1 (Or.inr ⟨rfl, by omega, by omega⟩)⟩⟩)
theorem r168 {v1 v2 v3 v4 : Int} {P : Int → Pl → Prop} (hd : 3 ≤ d) (h2 : v2 < 2147483648) (hb : ¬ ((0 ≤ v1 ∧ v1 ≤ 5) ∧ (0 ≤ v2 ∧ v2 < 50 ∧ v2 % 10 < 4) ∧ (0 ≤ v3 ∧ v3 ≤ 9999) ∧ 0 ≤ v4 ∧ v4 < 6) → P (-2) s) (hg : (0 ≤ v1 ∧ v1 ≤ 5) ∧ (0 ≤ v2 ∧ v2 < 50 ∧ v2 % 10 < 4) ∧ (0 ≤ v3 ∧ v3 ≤ 9999) ∧ (0 ≤ v4 ∧ v4 < 6) → (¬ s 72 3 = 6 → (¬ v2 / 10 = 4 → Fr xs L T0 106 (d - 1) 168 91 [some (rf 73), some (it v1), some (it v2), some (it v3), some (it v4)] [] s (qi P)) ∧ (v2 / 10 = 4 → Ev xs L T0 106 (d - 1) 138 [rf 73, it 4] s (qi fun r2 s1 => (¬ r2 = 3 → Fr xs L T0 106 (d - 1) 168 91 [some (rf 73), some (it v1), some (it v2), some (it v3), some (it v4)] [] s1 (qi P)) ∧ (r2 = 3 → P (-3) s1)))) ∧ (s 72 3 = 6 → P (-4) s)) : Ev xs L T0 106 d 168 [rf 73, it v1, it v2, it v3, it v4] s (qi P) := by
  refine e168 (by omega) (f168_0 (i132 (by omega) (fun g1 => ⟨fun z => absurd z (by decide), fun _ => ⟨fun z => hb fun q => by omega, fun z1 => ?_⟩⟩) (fun g1 => ⟨fun _ => hb fun q => by omega, fun z => absurd rfl z⟩)))
  rw [zdiv_pos (by omega) h2 (by decide) (by decide), zrem_pos (by omega) h2 (by decide) (by decide)]
  refine i132 (by omega) (fun g2 => ⟨fun z => absurd z (by decide), fun _ => i134 (by omega) (fun g3 => ⟨fun z => absurd z (by decide), fun _ => i132 (by omega) (fun g4 => ⟨fun z => absurd z (by decide), fun _ => i132 (by omega) (fun g5 => ⟨fun _ => ?_, fun z => absurd (by decide) z⟩) (fun g5 => ⟨fun z => absurd rfl z, fun _ => hb fun q => by omega⟩)⟩) (fun g4 => ⟨fun _ => hb fun q => by omega, fun z => absurd rfl z⟩)⟩) (fun g3 => ⟨fun _ => hb fun q => by omega, fun z => absurd rfl z⟩)⟩) (fun g2 => ⟨fun _ => hb fun q => by omega, fun z => absurd rfl z⟩)
  have hG := hg ⟨g1, ⟨by omega, by omega, by omega⟩, g4, by omega, by omega⟩
  refine ⟨fun z => ⟨fun z8 => (hG.1 z).1 z8, fun z8 => ((hG.1 z).2 (Classical.not_not.mp z8)).i fun r2 s1 q => ⟨q.1, fun z9 => q.2 (Classical.not_not.mp z9)⟩⟩, fun z => hG.2 (Classical.not_not.mp z)⟩
theorem J90 {v1 v2 v3 v4 : Int} (hd : 8 ≤ d) (h2 : v2 < 2147483648) (hI : Inv s) : Ev xs L T0 106 d 90 [rf 1, it v1, it v2, it v3, it v4] s (qi fun r s1 => Ev xs L T0 106 d 168 [rf 73, it v1, it v2, it v3, it v4] s1 (qi fun r2 s2 => r2 = r ∧ Inv s2)) := by
  obtain ⟨w, t, n, x0, hw, hE⟩ := hI.wk
  have hn := hw.1.1.2
  have e11 := hw.2.2.2.2.2.1.1
  have e703 : s 72 3 = (n : Nat) := hw.2.2.2.1.2.2.1.2
  have hcl : ∀ r : Nat, r < n → s 75 r = s 2 r := fun r hr => by rw [hw.2.2.2.2.1.2 r hr, hw.2.2.2.2.2.2.2.1 r hr]
  have hB := hI.1.2.2.2.2.2.2.2.2.2.2.1
  rw [e11, Int.toNat_natCast] at hB
  refine r90 (by omega) h2 (fun hb => r168 (by omega) h2 (fun _ => ⟨rfl, hI⟩) (fun hg => absurd hg hb)) (fun hg => ⟨fun hn6 => ?_, fun hn6 => r168 (by omega) h2 (fun hb => absurd hg hb) (fun _ => ⟨fun z => absurd (by omega) z, fun _ => ⟨rfl, hI⟩⟩)⟩)
  obtain ⟨ways, rfl⟩ : ∃ q : Nat, v2 = (q : Nat) := ⟨v2.toNat, by omega⟩
  obtain ⟨bw, rfl⟩ : ∃ q : Nat, v3 = (q : Nat) := ⟨v3.toNat, by omega⟩
  obtain ⟨g1, g2, g3, g4⟩ := hg
  have hn5 : n < 6 := by omega
  -- both add
  have addc : (((ways : Nat) : Int) / 10 = 4 → cnt (fun q => decide (s 2 q = 4)) n < 3) → Fr xs L T0 106 (d - 1) 90 121 [some (rf 1), some (it v1), some (it (ways : Nat)), some (it (bw : Nat)), some (it v4), some (it 1), some (it 1)] [] s (qi fun r s1 => Ev xs L T0 106 d 168 [rf 73, it v1, it (ways : Nat), it (bw : Nat), it v4] s1 (qi fun r2 s2 => r2 = r ∧ Inv s2)) := by
    intro h3
    have hsw : zup s 0 9 0 1 1 = (n : Nat) := by rw [zune _ _ _ (by decide)]; exact e11
    refine f90_121 (i3 (by omega) hn5 hsw (by omega) (by omega) ?_)
    have eS : ∀ c i, pad (zup s 0 9 0) n v1 ((ways / 10 : Nat) : Int) ((ways % 10 : Nat) : Int) ((bw / 100 : Nat) : Int) ((bw % 100 : Nat) : Int) v4 c i = zup (pad s n v1 ((ways / 10 : Nat) : Int) ((ways % 10 : Nat) : Int) ((bw / 100 : Nat) : Int) ((bw % 100 : Nat) : Int) v4) 0 9 0 c i := fun c i => by
      rw [zg, pad_at, pad_at, zg]
      by_cases e : c = 0 ∧ i = 9
      · rw [if_pos e, if_neg (by omega), if_neg (by omega), if_pos e]
      · rw [if_neg e, if_neg e]
    have eS2 : pad (zup s 0 9 0) n v1 ((ways / 10 : Nat) : Int) ((ways % 10 : Nat) : Int) ((bw / 100 : Nat) : Int) ((bw % 100 : Nat) : Int) v4 = zup (pad s n v1 ((ways / 10 : Nat) : Int) ((ways % 10 : Nat) : Int) ((bw / 100 : Nat) : Int) ((bw % 100 : Nat) : Int) v4) 0 9 0 := funext fun c => funext fun i => eS c i
    rw [eS2]
    have hJ := hI.1.padd (k := v1) (p := ((ways / 10 : Nat) : Int)) (to := ((ways % 10 : Nat) : Int)) (b := ((bw / 100 : Nat) : Int)) (wo := ((bw % 100 : Nat) : Int)) (ot := v4) e11 hn5 g1 (by omega) (by omega) (by omega) (by omega) g4 (fun q => h3 (by omega))
    have hInv := Inv.of0 hJ (by rw [padM_at, if_neg (by omega), if_neg (by omega), zg, if_pos ⟨rfl, rfl⟩])
    have er : zw ((zup (pad s n v1 ((ways / 10 : Nat) : Int) ((ways % 10 : Nat) : Int) ((bw / 100 : Nat) : Int) ((bw % 100 : Nat) : Int) v4) 0 9 0) 1 1 - 1) = (n : Nat) := by
      rw [zune _ _ _ (by decide), pad_at, if_pos ⟨rfl, rfl⟩, zw_id (by omega) (by omega)]; omega
    have f703 : (zup (pad s n v1 ((ways / 10 : Nat) : Int) ((ways % 10 : Nat) : Int) ((bw / 100 : Nat) : Int) ((bw % 100 : Nat) : Int) v4) 0 9 0) 72 3 = (n : Nat) := by
      rw [zune _ _ _ (by decide), pad_at, if_neg (by omega), if_neg (by omega)]; exact e703
    have f73 : ∀ r : Nat, (zup (pad s n v1 ((ways / 10 : Nat) : Int) ((ways % 10 : Nat) : Int) ((bw / 100 : Nat) : Int) ((bw % 100 : Nat) : Int) v4) 0 9 0) 75 r = s 75 r := fun r => by
      rw [zune _ _ _ (by decide), pad_at, if_neg (by omega), if_neg (by omega)]
    generalize zup (pad s n v1 ((ways / 10 : Nat) : Int) ((ways % 10 : Nat) : Int) ((bw / 100 : Nat) : Int) ((bw % 100 : Nat) : Int) v4) 0 9 0 = S at hInv er f703 f73
    rw [er]
    have addm : ∀ d2, Fr xs L T0 106 d2 168 91 [some (rf 73), some (it v1), some (it (ways : Nat)), some (it (bw : Nat)), some (it v4)] [] S (qi fun r2 s2 => r2 = (n : Nat) ∧ Inv s2) := fun d2 => q168 hn5 f703 (by omega) (by omega) ⟨rfl, hInv⟩
    refine r168 (by omega) h2 (fun hb => absurd ⟨g1, g2, g3, g4⟩ hb) (fun _ => ⟨fun _ => ⟨fun _ => addm _, fun q4 => (m138 n f703 hn (by omega)).i ?_⟩, fun q => absurd q (by omega)⟩)
    rintro r2 s2 ⟨rfl, rfl⟩
    have e : cnt (fun p => decide (s2 75 p = 4)) n = cnt (fun q => decide (s 2 q = 4)) n := cnt_cong fun r hr => by rw [f73 r, hcl r hr]
    rw [e]
    have := h3 q4
    exact ⟨fun _ => addm _, fun q => absurd q (by omega)⟩
  refine ⟨fun q4 => addc fun q => absurd q q4, fun q4 => (m6 n e11 hn (by omega)).i ?_⟩
  rintro r2 s2 ⟨rfl, rfl⟩
  refine i228 (btn_lt64 _ hn) (by omega) ?_
  rw [pop_btn _ hn]
  refine ⟨fun q => addc fun _ => by omega, fun q => ?_⟩
  refine r168 (by omega) h2 (fun hb => absurd ⟨g1, g2, g3, g4⟩ hb) (fun _ => ⟨fun _ => ⟨fun z => absurd q4 z, fun _ => (m138 n e703 hn (by omega)).i ?_⟩, fun q => absurd q (by omega)⟩)
  rintro r2 s3 ⟨rfl, rfl⟩
  have e : cnt (fun p => decide (s3 75 p = 4)) n = cnt (fun q => decide (s3 2 q = 4)) n := cnt_cong fun r hr => by rw [hcl r hr]
  rw [e]
  exact ⟨fun z => absurd (by omega) z, fun _ => ⟨rfl, hI⟩⟩
