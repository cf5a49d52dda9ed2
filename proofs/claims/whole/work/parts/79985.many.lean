/-! peopleBy -/
def mrg (S M : Pl) : Pl := fun c => if c < 72 then S c else M c
theorem mlo {S M : Pl} {c : Nat} (h : c < 72) : mrg S M c = S c := if_pos h
theorem mhi {S M : Pl} {c : Nat} (h : 72 ≤ c) : mrg S M c = M c := if_neg (by omega)
theorem mrg_self {S M : Pl} (h : ∀ c, 72 ≤ c → S c = M c) : mrg S M = S := funext fun c => by
  by_cases e : c < 72
  · exact mlo e
  · rw [mhi (by omega)]; exact (h c (by omega)).symm
/-- what one more would answer -/
noncomputable def adK (v1 v2 v3 v4 : Int) (n ab : Nat) : Int := if ¬ ((0 ≤ v1 ∧ v1 ≤ 5) ∧ (0 ≤ v2 ∧ v2 < 50 ∧ v2 % 10 < 4) ∧ (0 ≤ v3 ∧ v3 ≤ 9999) ∧ 0 ≤ v4 ∧ v4 < 6) then -2 else if ¬ n < 6 then -4 else if v2 / 10 = 4 ∧ 3 ≤ ab then -3 else (n : Nat)
def pC (s : Pl) (n : Nat) (v1 v2 v3 v4 : Int) : Pl := zup (pad s n v1 (v2 / 10) (v2 % 10) (v3 / 100) (v3 % 100) v4) 0 9 0
def pM (s : Pl) (n : Nat) (v1 v2 v3 v4 : Int) : Pl := padM s n v1 (v2 / 10) (v2 % 10) (v3 / 100) (v3 % 100) v4
variable {xs : Nat → Int} {L : Nat} {d : Nat} {s : Pl}
theorem i90c {n : Nat} {v1 v2 v3 v4 : Int} {P : Int → Pl → Prop} (hd : 4 ≤ d) (h2 : v2 < 2147483648) (e11 : s 1 1 = (n : Nat)) (hn : n ≤ 6) (h : P (adK v1 v2 v3 v4 n (cnt (fun q => decide (s 2 q = 4)) n)) (if adK v1 v2 v3 v4 n (cnt (fun q => decide (s 2 q = 4)) n) < 0 then s else pC s n v1 v2 v3 v4)) : Ev xs L T0 106 d 90 [rf 1, it v1, it v2, it v3, it v4] s (qi P) := by
  generalize hA : adK v1 v2 v3 v4 n (cnt (fun q => decide (s 2 q = 4)) n) = A at h
  unfold adK at hA
  refine r90 (by omega) h2 (fun hb => ?_) (fun hg => ⟨fun hn6 => ?_, fun hn6 => ?_⟩)
  · rw [if_pos hb] at hA
    subst hA; exact h
  · rw [if_neg (fun q => q hg), if_neg (by omega)] at hA
    obtain ⟨ways, rfl⟩ : ∃ q : Nat, v2 = (q : Nat) := ⟨v2.toNat, by omega⟩
    obtain ⟨bw, rfl⟩ : ∃ q : Nat, v3 = (q : Nat) := ⟨v3.toNat, by omega⟩
    have addc : A = (n : Nat) → Fr xs L T0 106 (d - 1) 90 121 [some (rf 1), some (it v1), some (it (ways : Nat)), some (it (bw : Nat)), some (it v4), some (it 1), some (it 1)] [] s (qi P) := by
      intro eA
      have hsw : zup s 0 9 0 1 1 = (n : Nat) := by rw [zune _ _ _ (by decide)]; exact e11
      refine f90_121 (i3 (by omega) (by omega) hsw (by omega) (by omega) ?_)
      have eS2 : pad (zup s 0 9 0) n v1 ((ways / 10 : Nat) : Int) ((ways % 10 : Nat) : Int) ((bw / 100 : Nat) : Int) ((bw % 100 : Nat) : Int) v4 = pC s n v1 (ways : Nat) (bw : Nat) v4 := funext fun c => funext fun i => by
        unfold pC
        rw [zg, pad_at, pad_at, zg]
        by_cases e : c = 0 ∧ i = 9
        · rw [if_pos e, if_neg (by omega), if_neg (by omega), if_pos e]
        · rw [if_neg e, if_neg e]
          rfl
      rw [eS2]
      have er : zw (pC s n v1 (ways : Nat) (bw : Nat) v4 1 1 - 1) = (n : Nat) := by
        unfold pC
        rw [zune _ _ _ (by decide), pad_at, if_pos ⟨rfl, rfl⟩, zw_id (by omega) (by omega)]; omega
      rw [er]
      rw [eA, if_neg (by omega)] at h
      exact h
    refine ⟨fun q4 => addc ?_, fun q4 => (m6 n e11 hn (by omega)).i ?_⟩
    · rw [if_neg (fun q => q4 q.1)] at hA; exact hA.symm
    · rintro r2 s2 ⟨rfl, rfl⟩
      refine i228 (btn_lt64 _ hn) (by omega) ?_
      rw [pop_btn _ hn]
      refine ⟨fun q => addc ?_, fun q => ?_⟩
      · rw [if_neg (fun z => by omega)] at hA; exact hA.symm
      · rw [if_pos ⟨q4, by omega⟩] at hA
        subst hA; exact h
  · rw [if_neg (fun q => q hg), if_pos (by omega)] at hA
    subst hA; exact h
theorem i168m {n : Nat} {v1 v2 v3 v4 : Int} {P : Int → Pl → Prop} (hd : 4 ≤ d) (h2 : v2 < 2147483648) (e703 : s 72 3 = (n : Nat)) (hn : n ≤ 6) (hB : cnt (fun q => decide (s 75 q = 4)) n ≤ 3) (h : P (adK v1 v2 v3 v4 n (cnt (fun q => decide (s 75 q = 4)) n)) (if adK v1 v2 v3 v4 n (cnt (fun q => decide (s 75 q = 4)) n) < 0 then s else pM s n v1 v2 v3 v4)) : Ev xs L T0 106 d 168 [rf 73, it v1, it v2, it v3, it v4] s (qi P) := by
  generalize hA : adK v1 v2 v3 v4 n (cnt (fun q => decide (s 75 q = 4)) n) = A at h
  unfold adK at hA
  refine r168 (by omega) h2 (fun hb => ?_) (fun hg => ⟨fun hn6 => ?_, fun hn6 => ?_⟩)
  · rw [if_pos hb] at hA
    subst hA; exact h
  · rw [if_neg (fun q => q hg), if_neg (by omega)] at hA
    obtain ⟨ways, rfl⟩ : ∃ q : Nat, v2 = (q : Nat) := ⟨v2.toNat, by omega⟩
    obtain ⟨bw, rfl⟩ : ∃ q : Nat, v3 = (q : Nat) := ⟨v3.toNat, by omega⟩
    have addm : A = (n : Nat) → ∀ d2, Fr xs L T0 106 d2 168 91 [some (rf 73), some (it v1), some (it (ways : Nat)), some (it (bw : Nat)), some (it v4)] [] s (qi P) := fun eA d2 => q168 (by omega) e703 (by omega) (by omega) (by
      rw [eA, if_neg (by omega)] at h
      exact h)
    refine ⟨fun q4 => addm ?_ _, fun q4 => (m138 n e703 hn (by omega)).i ?_⟩
    · rw [if_neg (fun q => q4 q.1)] at hA; exact hA.symm
    · rintro r2 s2 ⟨rfl, rfl⟩
      refine ⟨fun q => addm ?_ _, fun q => ?_⟩
      · rw [if_neg (fun z => by omega)] at hA; exact hA.symm
      · rw [if_pos ⟨q4, by omega⟩] at hA
        subst hA; exact h
  · rw [if_neg (fun q => q hg), if_pos (by omega)] at hA
    subst hA; exact h
theorem zw_over {x : Int} (h0 : 2147483648 ≤ x) (h1 : x < 4294967296) : zw x < 0 := by
  unfold zw
  rw [Int.bmod_def]
  split <;> omega
theorem i70 {t : Nat} {v : Int} {P : Int → Pl → Prop} (hd : 2 ≤ d) (ht : t < 4) (h40 : s (45 + 2 * t) 1 ≤ 40) (hv : 0 ≤ v ∧ v < s (45 + 2 * t) 1) (h : P (s (46 + 2 * t) v) s) : Ev xs L T0 106 d 70 [rf (45 + 2 * t + 1), it v] s (qi P) :=
  e70 (by omega) (f70_0 ht (i68 (by omega) ht h40 (fun _ => ⟨fun y => absurd y (by decide), fun _ => ⟨by omega, h⟩⟩) (fun y => absurd hv y)))
theorem mrgC {S M : Pl} {n : Nat} {v1 v2 v3 v4 : Int} : padM (zup (pad (mrg S M) n v1 (v2 / 10) (v2 % 10) (v3 / 100) (v3 % 100) v4) 0 9 0) n v1 (v2 / 10) (v2 % 10) (v3 / 100) (v3 % 100) v4 = mrg (pC S n v1 v2 v3 v4) (pM M n v1 v2 v3 v4) := funext fun c => funext fun i => by
  unfold pC pM
  by_cases e : c < 72
  · rw [mlo e, padM_at, if_neg (by omega), if_neg (by omega), zg, zg, pad_at, pad_at, mlo e]
  · have hx : (zup (pad (mrg S M) n v1 (v2 / 10) (v2 % 10) (v3 / 100) (v3 % 100) v4) 0 9 0) c i = M c i := by rw [zg, if_neg (by omega), pad_at, if_neg (by omega), if_neg (by omega), mhi (by omega)]
    rw [mhi (by omega), padM_at, padM_at, hx]
theorem mrgM {S M : Pl} {n : Nat} {v1 v2 v3 v4 : Int} : pM (mrg S M) n v1 v2 v3 v4 = mrg S (pM M n v1 v2 v3 v4) := funext fun c => funext fun i => by
  unfold pM
  by_cases e : c < 72
  · rw [mlo e, padM_at, if_neg (by omega), if_neg (by omega), mlo e]
  · rw [mhi (by omega), padM_at, padM_at, mhi (by omega)]
theorem adK_lt {v1 v2 v3 v4 : Int} {n ab : Nat} (h : ¬ adK v1 v2 v3 v4 n ab < 0) : ((0 ≤ v1 ∧ v1 ≤ 5) ∧ (0 ≤ v2 ∧ v2 < 50 ∧ v2 % 10 < 4) ∧ (0 ≤ v3 ∧ v3 ≤ 9999) ∧ 0 ≤ v4 ∧ v4 < 6) ∧ n < 6 ∧ (v2 / 10 = 4 → ab < 3) := by
  unfold adK at h
  by_cases h1 : (0 ≤ v1 ∧ v1 ≤ 5) ∧ (0 ≤ v2 ∧ v2 < 50 ∧ v2 % 10 < 4) ∧ (0 ≤ v3 ∧ v3 ≤ 9999) ∧ 0 ≤ v4 ∧ v4 < 6
  · rw [if_neg (fun q => q h1)] at h
    by_cases h2 : n < 6
    · rw [if_neg (fun q => q h2)] at h
      by_cases h3 : v2 / 10 = 4 ∧ 3 ≤ ab
      · rw [if_pos h3] at h; exact absurd (by decide) h
      · exact ⟨h1, h2, fun q => by omega⟩
    · rw [if_pos h2] at h; exact absurd (by decide) h
  · rw [if_pos h1] at h; exact absurd (by decide) h
/-- the loops of both -/
theorem l120 {t : Nat} {v2 v3 : Int} {m : Nat} {s0 : Pl} (hd : 8 ≤ d) (ht : t < 4) (r3 : -2147483648 ≤ v3 ∧ v3 < 2147483648) (hm : m ≤ 6) (hI0 : Inv s0) (hk : s0 102 (t : Nat) ≠ -1)
    (hmod : ∀ (S : Pl) (P : Int → Pl → Prop), (∀ c, 72 ≤ c → S c = s0 c) → Fr xs L T0 106 (d - 1) 225 61 [some (rf 73), some (it (t : Nat)), some (it v2), some (it v3), some (it (m : Nat)), some (it ((0 : Nat) : Int)), some (it ((0 : Nat) : Int)), none, none, none] [] (mrg S s0) (qi P) → Ev xs L T0 106 d 225 [rf 73, it (t : Nat), it v2, it v3, it (m : Nat)] S (qi P)) :
    ∀ (j k q : Nat) (sC M : Pl) (w8 : Option AV), k + j = m → q ≤ k → (∀ c, 72 ≤ c → sC c = s0 c) → (∀ c, 45 ≤ c → c ≤ 52 → sC c = s0 c) → (∀ c, 102 ≤ c → M c = s0 c) → Inv (mrg sC M) → (∀ (S : Pl) (P : Int → Pl → Prop), (∀ c, 72 ≤ c → S c = s0 c) → (∀ w7 w9 : Option AV, Fr xs L T0 106 (d - 1) 225 61 [some (rf 73), some (it (t : Nat)), some (it v2), some (it v3), some (it (m : Nat)), some (it (q : Nat)), some (it (k : Nat)), w7, none, w9] [] (mrg S M) (qi P)) → Ev xs L T0 106 d 225 [rf 73, it (t : Nat), it v2, it v3, it (m : Nat)] S (qi P)) → Fr xs L T0 106 (d - 1) 120 69 [some (rf 1), some (it (t : Nat)), some (it v2), some (it v3), some (it (m : Nat)), some (rf (45 + 2 * t + 1)), some (it (q : Nat)), some (it (k : Nat)), w8] [] sC (qi fun r s1 => Ev xs L T0 106 d 225 [rf 73, it (t : Nat), it v2, it v3, it (m : Nat)] s1 (qi fun r2 s2 => r2 = r ∧ Inv s2)) := by
  obtain ⟨a1, a2, a3, a4⟩ := (hI0.1.2.2.2.2.2.2.2.1).at ht
  obtain ⟨p1, p2, p3, p4⟩ := a4 hk
  intro j
  induction j with
  | zero =>
    intro k q sC M w8 hj hq g1 g2 g3 g4 g5
    have e : k = m := by omega
    subst e
    exact f120_69 ht ⟨fun _ => g5 sC _ g1 fun w7 w9 => f225_61 ⟨fun _ => ⟨rfl, g4⟩, fun z => absurd (by omega) z⟩, fun z => absurd (by omega) z⟩
  | succ j ih =>
    intro k q sC M w8 hj hq g1 g2 g3 g4 g5
    have zk : ∀ _ : Unit, zw ((k : Nat) + 1) = ((k + 1 : Nat) : Int) := fun _ => by rw [zw_id (by omega) (by omega)]; omega
    have zq : ∀ _ : Unit, zw ((q : Nat) + 1) = ((q + 1 : Nat) : Int) := fun _ => by rw [zw_id (by omega) (by omega)]; omega
    have z4 : ∀ _ : Unit, zw (4 * (k : Nat)) = 4 * (k : Int) := fun _ => by rw [zw_id (by omega) (by omega)]
    have eC1 : sC (45 + 2 * t) 1 = s0 103 (t : Nat) := by rw [g2 _ (by omega) (by omega)]; omega
    have e101 : ∀ S, mrg S M 103 (t : Nat) = s0 103 (t : Nat) := fun S => by rw [mhi (by omega), g3 103 (by omega)]
    have hr : ∀ i : Int, 0 ≤ i → i < 40 → -2147483648 ≤ s0 (46 + 2 * t) i ∧ s0 (46 + 2 * t) i < 2147483648 := fun i q1 q2 => hI0.1.2.2.2.2.2.2.2.2.2.1.2.2.2.2 t ht i q1 q2
    by_cases hin : 0 ≤ v3 + 4 * (k : Int) ∧ v3 + 4 * (k : Int) + 4 ≤ s0 103 (t : Nat)
    · obtain ⟨x, hx⟩ : ∃ x : Int, x = v3 + 4 * (k : Int) := ⟨_, rfl⟩
      rw [← hx] at hin
      have zx : ∀ _ : Unit, zw (v3 + 4 * (k : Int)) = x := fun _ => by rw [hx, zw_id (by omega) (by omega)]
      have zx1 : ∀ _ : Unit, zw (x + 1) = x + 1 := fun _ => zw_id (by omega) (by omega)
      have zx2 : ∀ _ : Unit, zw (x + 2) = x + 2 := fun _ => zw_id (by omega) (by omega)
      have zx3 : ∀ _ : Unit, zw (x + 3) = x + 3 := fun _ => zw_id (by omega) (by omega)
      have zlx : ∀ _ : Unit, zl (v3 + 4 * (k : Int)) = x := fun _ => by rw [hx, zl_id (by omega) (by omega)]
      have zlx3 : ∀ _ : Unit, zl (x + 3) = x + 3 := fun _ => zl_id (by omega) (by omega)
      have zx0 : ∀ _ : Unit, zw x = x := fun _ => zw_id (by omega) (by omega)
      have y0 : ∀ _ : Unit, zw (zw (40 * (t : Nat)) + x) = 40 * (t : Int) + x := fun _ => by rw [zw_id (x := 40 * (t : Nat)) (by omega) (by omega), zw_id (by omega) (by omega)]
      have y1 : ∀ _ : Unit, zw (40 * (t : Int) + x + 1) = 40 * (t : Int) + (x + 1) := fun _ => by rw [zw_id (by omega) (by omega)]; omega
      have y2 : ∀ _ : Unit, zw (40 * (t : Int) + x + 2) = 40 * (t : Int) + (x + 2) := fun _ => by rw [zw_id (by omega) (by omega)]; omega
      have y3 : ∀ _ : Unit, zw (40 * (t : Int) + x + 3) = 40 * (t : Int) + (x + 3) := fun _ => by rw [zw_id (by omega) (by omega)]; omega
      have e46 : sC (46 + 2 * t) = s0 (46 + 2 * t) := g2 _ (by omega) (by omega)
      obtain ⟨⟨l1, l2, l3⟩, ⟨l4, l5, l6⟩, _⟩ := g4.1.1
      rw [mhi (by decide), mlo (by decide)] at l4
      rw [mlo (by decide)] at l5 l6
      obtain ⟨n, hn⟩ : ∃ n : Nat, sC 1 1 = (n : Nat) := ⟨(sC 1 1).toNat, by omega⟩
      have hn6 : n ≤ 6 := by omega
      have hcl : ∀ r : Nat, r < n → M 75 r = sC 2 r := fun r hr => by
        have := (g4.1.2.2.2.1 r (by omega) (by rw [mlo (by decide)]; omega)).1.1
        rw [mhi (by decide), mlo (by decide)] at this
        exact this
      have hB : cnt (fun q => decide (sC 2 q = 4)) n ≤ 3 := by
        have := g4.1.2.2.2.2.2.2.2.2.2.2.1
        rw [mlo (by decide), mlo (by decide), hn, Int.toNat_natCast] at this
        exact this
      have hcn : ∀ S, cnt (fun q => decide (mrg S M 75 q = 4)) n = cnt (fun q => decide (sC 2 q = 4)) n := fun S => cnt_cong fun r hr => by rw [mhi (by decide), hcl r hr]
      obtain ⟨b0, hb0⟩ : ∃ b, b = s0 (46 + 2 * t) x := ⟨_, rfl⟩
      obtain ⟨b1, hb1⟩ : ∃ b, b = s0 (46 + 2 * t) (x + 1) := ⟨_, rfl⟩
      obtain ⟨b2, hb2⟩ : ∃ b, b = s0 (46 + 2 * t) (x + 2) := ⟨_, rfl⟩
      obtain ⟨b3, hb3⟩ : ∃ b, b = s0 (46 + 2 * t) (x + 3) := ⟨_, rfl⟩
      have rb1 : b1 < 2147483648 := by rw [hb1]; exact (hr _ (by omega) (by omega)).2
      have v102 : ∀ S, ∀ i : Int, 0 ≤ i → i < s0 103 (t : Nat) → mrg S M 104 (40 * (t : Int) + i) = s0 (46 + 2 * t) i := fun S i q1 q2 => by rw [mhi (by decide), g3 104 (by omega)]; exact p4 i q1 q2
      -- the reference's step
      have mstep : ∀ (S : Pl) (P : Int → Pl → Prop) (q2 : Nat), q2 = (if adK b0 b1 b2 b3 n (cnt (fun q => decide (sC 2 q = 4)) n) < 0 then q else q + 1) → (∀ w7 w9 : Option AV, Fr xs L T0 106 (d - 1) 225 61 [some (rf 73), some (it (t : Nat)), some (it v2), some (it v3), some (it (m : Nat)), some (it (q2 : Nat)), some (it ((k + 1 : Nat) : Int)), w7, none, w9] [] (mrg S (if adK b0 b1 b2 b3 n (cnt (fun q => decide (sC 2 q = 4)) n) < 0 then M else pM M n b0 b1 b2 b3)) (qi P)) → ∀ w7 w9 : Option AV, Fr xs L T0 106 (d - 1) 225 61 [some (rf 73), some (it (t : Nat)), some (it v2), some (it v3), some (it (m : Nat)), some (it (q : Nat)), some (it (k : Nat)), w7, none, w9] [] (mrg S M) (qi P) := by
        intro S P q2 hq2 hF w7 w9
        refine f225_61 ⟨fun z => absurd z (by omega), fun _ => ?_⟩
        rw [z4 (), zlx (), zlx3 (), zx0 (), y0 (), y1 (), y2 (), y3 (), e101 S, v102 S x (by omega) (by omega), v102 S (x + 1) (by omega) (by omega), v102 S (x + 2) (by omega) (by omega), v102 S (x + 3) (by omega) (by omega), ← hb0, ← hb1, ← hb2, ← hb3]
        refine ⟨fun z => absurd (zlc_lt.mp z) (by omega), fun _ => ⟨by omega, fun _ => ⟨by omega, by omega, by omega, by omega, ?_⟩, fun z => absurd (zlc_lt.mpr (by omega)) z⟩⟩
        refine i168m (n := n) (by omega) rb1 (by rw [mhi (by decide)]; omega) hn6 (by rw [hcn]; exact hB) ?_
        rw [hcn]
        by_cases hA : adK b0 b1 b2 b3 n (cnt (fun q => decide (sC 2 q = 4)) n) < 0
        · rw [if_pos hA] at hF hq2 ⊢
          subst hq2
          refine ⟨fun _ => f225_159 ?_, fun z => absurd hA z⟩
          rw [zk ()]; exact hF _ _
        · rw [if_neg hA] at hF hq2 ⊢
          subst hq2
          refine ⟨fun z => absurd z hA, fun _ => f225_159 ?_⟩
          rw [zk (), zq (), mrgM]; exact hF _ _
      refine f120_69 ht ⟨fun y => absurd y (by omega), fun _ => ?_⟩
      rw [z4 (), zx (), zx1 (), zx2 (), zx3 ()]
      refine i69 (by omega) ht (by rw [eC1]; omega) (fun _ => ⟨fun _ => i70 (by omega) ht (by rw [eC1]; omega) (by rw [eC1]; omega) (i70 (by omega) ht (by rw [eC1]; omega) (by rw [eC1]; omega) (i70 (by omega) ht (by rw [eC1]; omega) (by rw [eC1]; omega) (i70 (by omega) ht (by rw [eC1]; omega) (by rw [eC1]; omega) ?_))), fun y => absurd (by decide) y⟩) (fun y => absurd (by rw [eC1]; omega) y)
      rw [e46, ← hb0, ← hb1, ← hb2, ← hb3]
      refine i90c (by omega) rb1 hn hn6 ?_
      by_cases hA : adK b0 b1 b2 b3 n (cnt (fun q => decide (sC 2 q = 4)) n) < 0
      · rw [if_pos hA]
        refine ⟨fun _ => f120_142 ht ?_, fun z => absurd hA z⟩
        rw [zk ()]
        refine ih (k + 1) q sC M _ (by omega) (by omega) g1 g2 g3 g4 fun S P hS hF => g5 S P hS (mstep S P q (by rw [if_pos hA]) (by rw [if_pos hA]; exact hF))
      · rw [if_neg hA]
        refine ⟨fun z => absurd z hA, fun _ => f120_142 ht ?_⟩
        rw [zk (), zq ()]
        have hh := adK_lt hA
        have hJ := g4.1.padd (n := n) (k := b0) (p := b1 / 10) (to := b1 % 10) (b := b2 / 100) (wo := b2 % 100) (ot := b3) (by rw [mlo (by decide)]; exact hn) hh.2.1 hh.1.1 (by omega) (by omega) (by omega) (by omega) hh.1.2.2.2 (fun z => by rw [mlo (by decide)]; exact hh.2.2 z)
        rw [mrgC] at hJ
        have hp : ∀ c i, 45 ≤ c → pC sC n b0 b1 b2 b3 c i = sC c i := fun c i hc => by unfold pC; rw [zg, if_neg (by omega), pad_at, if_neg (by omega), if_neg (by omega)]
        refine ih (k + 1) (q + 1) _ (pM M n b0 b1 b2 b3) _ (by omega) (by omega) (fun c hc => by rw [← g1 c hc]; exact funext fun i => hp c i (by omega)) (fun c hc hc2 => by rw [← g2 c hc hc2]; exact funext fun i => hp c i (by omega)) (fun c hc => by rw [← g3 c hc]; exact funext fun i => by unfold pM; rw [padM_at, if_neg (by omega), if_neg (by omega)]) (Inv.of0 hJ (by rw [mlo (by decide)]; unfold pC; rw [zg, if_pos ⟨rfl, rfl⟩])) fun S P hS hF => g5 S P hS (mstep S P (q + 1) (by rw [if_neg hA]) (by rw [if_neg hA]; exact hF))
    · refine f120_69 ht ⟨fun y => absurd y (by omega), fun _ => ?_⟩
      have hzx : ¬ (0 ≤ zw (v3 + 4 * (k : Int)) ∧ (0 : Int) ≤ 4 ∧ zw (v3 + 4 * (k : Int)) + 4 ≤ s0 103 (t : Nat)) := by
        by_cases hb : v3 + 4 * (k : Int) < 2147483648
        · rw [zw_id (by omega) (by omega)]; omega
        · have := zw_over (x := v3 + 4 * (k : Int)) (by omega) (by omega)
          intro z
          exact absurd z.1 (Int.not_le.mpr this)
      rw [z4 ()]
      refine i69 (by omega) ht (by rw [eC1]; omega) (fun y => absurd (by rw [eC1] at y; exact y) hzx) (fun _ => ⟨fun y => absurd rfl y, fun _ => g5 sC _ g1 fun w7 w9 => f225_61 ⟨fun z => absurd z (by omega), fun _ => ?_⟩⟩)
      rw [z4 (), e101, zl_id (x := v3 + 4 * (k : Int)) (by omega) (by omega), zl_id (x := v3 + 4 * (k : Int) + 3) (by omega) (by omega)]
      refine ⟨fun _ => ⟨rfl, g4⟩, fun y1 => ⟨by omega, fun y2 => ?_, fun _ => ⟨rfl, g4⟩⟩⟩
      have w1 := zlc_lt.mp y2
      have w2 : ¬ v3 + 4 * (k : Int) < 0 := fun q => y1 (zlc_lt.mpr q)
      exact absurd ⟨by omega, by omega⟩ hin
/-- peopleBy -/
theorem J120 {u v2 v3 v4 : Int} (hd : 8 ≤ d) (r3 : -2147483648 ≤ v3 ∧ v3 < 2147483648) (hI : Inv s) : Ev xs L T0 106 d 120 [rf 1, it u, it v2, it v3, it v4] s (qi fun r s1 => Ev xs L T0 106 d 225 [rf 73, it u, it v2, it v3, it v4] s1 (qi fun r2 s2 => r2 = r ∧ Inv s2)) := by
  have model : ∀ (S : Pl) (P : Int → Pl → Prop), (¬ ((0 ≤ u ∧ u < 4) ∧ (0 ≤ v2 ∧ v2 ≤ 2) ∧ 0 ≤ v4 ∧ v4 ≤ 6) → P (-2) S) → ((0 ≤ u ∧ u < 4) ∧ (0 ≤ v2 ∧ v2 ≤ 2) ∧ 0 ≤ v4 ∧ v4 ≤ 6 → (¬ 0 ≤ S 102 u → P (-11) S) ∧ (0 ≤ S 102 u → S 102 u ≠ v2 → P (-13) S) ∧ (S 102 u = v2 → Fr xs L T0 106 (d - 1) 225 61 [some (rf 73), some (it u), some (it v2), some (it v3), some (it v4), some (it ((0 : Nat) : Int)), some (it ((0 : Nat) : Int)), none, none, none] [] S (qi P))) → Ev xs L T0 106 d 225 [rf 73, it u, it v2, it v3, it v4] S (qi P) := fun S P hb hg => e225 (by omega) (f225_0 (i221 (by omega) (fun h1 => ⟨fun y => absurd y (by decide), fun _ => i132 (by omega) (fun h2 => ⟨fun y => absurd y (by decide), fun _ => i132 (by omega) (fun h3 => ⟨fun _ => ⟨h1, fun k1 => ⟨h1, fun k2 => (hg ⟨h1, h2, h3⟩).2.2 k2, fun k2 => (hg ⟨h1, h2, h3⟩).2.1 k1 k2⟩, fun k1 => (hg ⟨h1, h2, h3⟩).1 k1⟩, fun y => absurd (by decide) y⟩) (fun h3 => ⟨fun y => absurd rfl y, fun _ => hb (fun q => h3 q.2.2)⟩)⟩) (fun h2 => ⟨fun _ => hb (fun q => h2 q.2.1), fun y => absurd rfl y⟩)⟩) (fun h1 => ⟨fun _ => hb (fun q => h1 q.1), fun y => absurd rfl y⟩)))
  have bad2 : ¬ ((0 ≤ u ∧ u < 4) ∧ (0 ≤ v2 ∧ v2 ≤ 2) ∧ 0 ≤ v4 ∧ v4 ≤ 6) → Ev xs L T0 106 d 225 [rf 73, it u, it v2, it v3, it v4] s (qi fun r2 s2 => r2 = -2 ∧ Inv s2) := fun q => model s _ (fun _ => ⟨rfl, hI⟩) (fun y => absurd y q)
  refine e120 (by omega) (f120_0 (i128 (by omega) (fun h1 => ⟨fun y => absurd y (by decide), fun _ => ⟨fun _ => bad2 (by omega), fun _ => ⟨fun _ => bad2 (by omega), fun _ => ⟨fun _ => bad2 (by omega), fun _ => ⟨fun _ => ⟨h1, fun t et ht => ?_⟩, fun _ => bad2 (by omega)⟩⟩⟩⟩⟩) (fun h1 => ⟨fun _ => bad2 (fun q => h1 q.1), fun y => absurd rfl y⟩)))
  subst et
  obtain ⟨m, rfl⟩ : ∃ m : Nat, v4 = (m : Nat) := ⟨v4.toNat, by omega⟩
  obtain ⟨a1, a2, a3, a4⟩ := (hI.1.2.2.2.2.2.2.2.1).at ht
  have hg0 : (0 ≤ ((t : Nat) : Int) ∧ ((t : Nat) : Int) < 4) ∧ (0 ≤ v2 ∧ v2 ≤ 2) ∧ 0 ≤ ((m : Nat) : Int) ∧ ((m : Nat) : Int) ≤ 6 := by omega
  refine ⟨fun k1 => ⟨fun k2 => ?_, fun k2 => model s _ (fun y => absurd hg0 y) (fun _ => ⟨fun y => absurd (by omega) y, fun _ _ => ⟨rfl, hI⟩, fun y => absurd (by omega) k2⟩)⟩, fun k1 => model s _ (fun y => absurd hg0 y) (fun _ => ⟨fun _ => ⟨rfl, hI⟩, fun y => absurd y (by omega), fun y => absurd y (by omega)⟩)⟩
  have hkv : s 102 (t : Nat) = v2 := by omega
  exact l120 hd ht r3 (m := m) (by omega) hI (by omega) (fun S P hS hF => model S P (fun y => absurd hg0 y) (fun _ => ⟨fun y => absurd (by rw [hS 102 (by omega)]; omega) y, fun _ y => absurd (by rw [hS 102 (by omega)]; exact hkv) y, fun _ => by rw [mrg_self (S := S) (M := s) hS] at hF; exact hF⟩)) m 0 0 s s none (by omega) (by omega) (fun _ _ => rfl) (fun _ _ _ => rfl) (fun _ _ => rfl) (by rw [mrg_self (fun _ _ => rfl)]; exact hI) (fun S P hS hF => model S P (fun y => absurd hg0 y) (fun _ => ⟨fun y => absurd (by rw [hS 102 (by omega)]; omega) y, fun _ y => absurd (by rw [hS 102 (by omega)]; exact hkv) y, fun _ => by have := hF none none; rw [mrg_self (S := S) (M := s) hS] at this; exact this⟩))
