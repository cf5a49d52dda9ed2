/-! the reference's search, whole -/
def SolM (w : Pl) (t n m x0 : Nat) (s : Pl) : Prop := ∃ (N : Nat) (g cs : Nat → Nat), (s 72 37 = (N : Nat) ∧ N ≤ 1440) ∧ (∀ i : Nat, i < N → s 93 ((i : Nat) : Int) = (mcd (g i) n : Nat) ∧ s 94 ((i : Nat) : Int) = (cs i : Nat) ∧ cs i ≤ 400) ∧ inj9 g N ∧ (∀ i, i < N → okx n (g i)) ∧ ∀ y k, DD w t n m x0 400 y k ↔ ∃ i, i < N ∧ g i = y ∧ cs i = k
def fFs (s s1 : Pl) : Prop := ∀ c i, c ≠ 85 → c ≠ 86 → c ≠ 93 → c ≠ 94 → c ≠ 95 → c ≠ 96 → c ≠ 97 → (c = 72 → i ≠ 37) → s1 c i = s c i
/-- between two goOns -/
def FI (w : Pl) (t n m x0 : Nat) (s : Pl) (N : Nat) (g cs : Nat → Nat) (dn : Nat → Bool) : Prop :=
  ML n s N g cs dn ∧ (∀ i, i < N → (∃ st, pth w t n m x0 st (g i) (cs i)) ∧ cs i ≤ 400) ∧ (∀ i, N ≤ i → dn i = false) ∧ (∀ i j, i < N → j < N → dn i = true → dn j = false → cs i ≤ cs j) ∧ (∀ i, i < N → dn i = true → Clo w t n m N g cs i) ∧ Cov N g cs x0 0
theorem FI.of {w : Pl} {t n m x0 N : Nat} {s s1 : Pl} {g cs : Nat → Nat} {dn : Nat → Bool} (v : FI w t n m x0 s N g cs dn) (h : ML n s N g cs dn → ML n s1 N g cs dn) : FI w t n m x0 s1 N g cs dn := ⟨h v.1, v.2⟩
theorem cnt_full {f : Nat → Bool} {k : Nat} (h : cnt f k = k) : ∀ i, i < k → f i = true := by
  induction k with
  | zero => intro i hi; omega
  | succ k ih =>
    intro i hi
    simp only [cnt] at h
    have := cnt_le f k
    by_cases e : f k = true
    · rw [if_pos e] at h
      by_cases e2 : i = k
      · subst e2; exact e
      · exact ih (by omega) i (by omega)
    · rw [if_neg e] at h; omega
/-- what the loop of findStates leaves alone -/
def fLo (n : Nat) (s s1 : Pl) : Prop := ∀ c i, c ≠ 85 → c ≠ 86 → c ≠ 93 → c ≠ 94 → c ≠ 95 → c ≠ 96 → (c = 75 → i < 0 ∨ ((n : Nat) : Int) ≤ i) → (c = 72 → i ≠ 2 ∧ i ≠ 37) → s1 c i = s c i
def mk9 (dn : Nat → Bool) (b : Nat) : Nat → Bool := fun i => if i = b then true else dn i
theorem mk9_at (dn : Nat → Bool) (b : Nat) : mk9 dn b b = true := if_pos rfl
theorem mk9_ne {dn : Nat → Bool} {b i : Nat} (h : i ≠ b) : mk9 dn b i = dn i := if_neg h
theorem ML.mark {n N cur : Nat} {s : Pl} {g cs : Nat → Nat} {dn : Nat → Bool} (v : ML n s N g cs dn) : ML n (zup s 95 (cur : Nat) 1) N g cs (mk9 dn cur) := by
  obtain ⟨⟨a1, a2⟩, a3, a4, a5, o, a6⟩ := v
  refine ⟨⟨by rw [zune _ _ _ (by decide)]; exact a1, a2⟩, fun i hi => ⟨by rw [zune _ _ _ (by decide)]; exact (a3 i hi).1, by rw [zune _ _ _ (by decide)]; exact (a3 i hi).2.1, ?_⟩, a4, a5, o, ?_⟩
  · rw [zg]
    by_cases e : i = cur
    · subst e; rw [if_pos ⟨rfl, rfl⟩, mk9_at]; rfl
    · rw [if_neg (fun q => e (by omega)), mk9_ne e]; exact (a3 i hi).2.2
  · unfold HT
    rw [zune _ _ _ (by decide)]
    exact a6
variable {xs : Nat → Int} {L : Nat} {d : Nat} {s : Pl}
theorem l195d {n : Nat} {b : Int} {P : Pl → Prop} {m x0 : Nat} (hn : n ≤ 6) (s0 : Pl) (hb : s0 72 2 = b) (h : ∀ s1 : Pl, (∀ c i, c ≠ 75 → (c = 72 → i ≠ 2) → s1 c i = s c i) → (∀ i : Int, s1 75 i = s0 75 i) → s1 72 2 = s0 72 2 → P s1) (h95 : ∀ r : Nat, r < n → s 97 ((r : Nat) : Int) = s0 75 ((r : Nat) : Int)) (h73 : ∀ i : Int, i < 0 ∨ ((n : Nat) : Int) ≤ i → s 75 i = s0 75 i) (h703 : s 72 3 = (n : Nat)) : ∀ (j k : Nat) (s2 : Pl) (v1 v3 v4 : Int), k + j = n → v4 = (k : Nat) → (∀ c i, c ≠ 75 → s2 c i = s c i) → (∀ i : Int, (i < 0 ∨ i < (k : Nat) ∨ ((n : Nat) : Int) ≤ i) → s2 75 i = s0 75 i) → Fr xs L T0 106 d 195 143 [some (rf 73), some (it v1), some (it b), some (it v3), some (it v4)] [] s2 (qv P) := by
  intro j
  induction j with
  | zero =>
    intro k s2 v1 v3 v4 hk h2 h3 h4
    refine f195_143 ⟨fun _ => h _ (fun c i b1 b2 => by rw [zg, if_neg (fun q => b2 q.1 q.2)]; exact h3 c i b1) (fun i => by rw [zune _ _ _ (by decide)]; exact h4 i (by omega)) (by rw [zg, if_pos ⟨rfl, rfl⟩, hb]), fun z => absurd (by rw [h3 72 3 (by decide), h703]; omega) z⟩
  | succ j ih =>
    intro k s2 v1 v3 v4 hk h2 h3 h4
    subst h2
    refine f195_143 ⟨fun z => absurd z (by rw [h3 72 3 (by decide), h703]; omega), fun _ => ⟨by omega, by omega, ?_⟩⟩
    refine ih (k + 1) _ _ _ _ (by omega) (by rw [zw_id (by omega) (by omega)]; omega) (fun c i hc => by rw [zune _ _ _ hc]; exact h3 c i hc) (fun i hi => ?_)
    rw [zg]
    by_cases e : i = (k : Nat)
    · rw [if_pos ⟨rfl, e⟩, h3 97 _ (by decide), h95 k (by omega), e]
    · rw [if_neg (fun q => e q.2)]; exact h4 i (by omega)
/-- the next one: undone, of least cost -/
theorem l195c {w : Pl} {t n m x0 N : Nat} {g cs : Nat → Nat} {dn : Nat → Bool} {P : Pl → Prop} {v1 v2 : Int} (fi : FI w t n m x0 s N g cs dn) (out : ∀ (v3 v4 : Int), (v3 = -1 ∧ (∀ i, i < N → dn i = true)) ∨ (∃ b : Nat, v3 = (b : Nat) ∧ b < N ∧ dn b = false ∧ ∀ i, i < N → dn i = false → cs b ≤ cs i) → Fr xs L T0 106 d 195 67 [some (rf 73), some (it v1), some (it v2), some (it v3), some (it v4)] [] s (qv P)) : ∀ (j k : Nat) (v3 v4 : Int), k + j = N → v4 = (k : Nat) → ((v3 = -1 ∧ ∀ i, i < k → dn i = true) ∨ ∃ b : Nat, v3 = (b : Nat) ∧ b < k ∧ dn b = false ∧ ∀ i, i < k → dn i = false → cs b ≤ cs i) → Fr xs L T0 106 d 195 89 [some (rf 73), some (it v1), some (it v2), some (it v3), some (it v4)] [] s (qv P) := by
  obtain ⟨⟨⟨a1, a2⟩, a3, _⟩, _⟩ := fi
  intro j
  induction j with
  | zero =>
    intro k v3 v4 hk h2 h3
    have e : k = N := by omega
    subst e
    exact f195_89 ⟨fun _ => out v3 v4 h3, fun z => absurd (by omega) z⟩
  | succ j ih =>
    intro k v3 v4 hk h2 h3
    subst h2
    have zk : ∀ _ : Unit, zw ((k : Nat) + 1) = ((k + 1 : Nat) : Int) := fun _ => by rw [zw_id (by omega) (by omega)]; omega
    have e93 := (a3 k (by omega)).2.2
    refine f195_89 ⟨fun z => absurd z (by omega), fun _ => ⟨by omega, ?_⟩⟩
    rw [e93]
    have keep : (v3 = -1 ∧ ∀ i, i < k + 1 → dn i = true) ∨ (∃ b : Nat, v3 = (b : Nat) ∧ b < k + 1 ∧ dn b = false ∧ ∀ i, i < k + 1 → dn i = false → cs b ≤ cs i) → Fr xs L T0 106 d 195 131 [some (rf 73), some (it v1), some (it v2), some (it v3), some (it (k : Nat))] [] s (qv P) := fun q => f195_131 (by
      rw [zk ()]
      exact ih (k + 1) v3 _ (by omega) rfl q)
    have take : dn k = false → (∀ i, i < k → dn i = false → cs k ≤ cs i) → Fr xs L T0 106 d 195 128 [some (rf 73), some (it v1), some (it v2), some (it v3), some (it (k : Nat))] [] s (qv P) := fun q1 q2 => f195_128 (f195_131 (by
      rw [zk ()]
      refine ih (k + 1) _ _ (by omega) rfl (Or.inr ⟨k, rfl, by omega, q1, fun i hi hd => ?_⟩)
      by_cases e : i = k
      · subst e; exact Nat.le_refl _
      · exact q2 i (by omega) hd))
    by_cases hdk : dn k = true
    · rw [if_pos hdk]
      refine ⟨fun _ => keep ?_, fun z => absurd (by decide) z⟩
      rcases h3 with ⟨q1, q2⟩ | ⟨b, q1, q2, q3, q4⟩
      · refine Or.inl ⟨q1, fun i hi => ?_⟩
        by_cases e : i = k
        · subst e; exact hdk
        · exact q2 i (by omega)
      · refine Or.inr ⟨b, q1, by omega, q3, fun i hi hd => ?_⟩
        by_cases e : i = k
        · subst e; rw [hdk] at hd; cases hd
        · exact q4 i (by omega) hd
    · rw [if_neg hdk]
      have hdk2 : dn k = false := by simpa using hdk
      refine ⟨fun z => absurd rfl z, fun _ => ?_⟩
      rcases h3 with ⟨q1, q2⟩ | ⟨b, q1, q2, q3, q4⟩
      · exact ⟨fun _ => take hdk2 fun i hi hd => absurd ((q2 i hi).symm.trans hd) (by decide), fun z => absurd (by omega) z⟩
      · subst q1
        rw [(a3 b (by omega)).2.1, (a3 k (by omega)).2.1]
        refine ⟨fun z => absurd z (by omega), fun _ => ⟨by omega, by omega, fun z => keep (Or.inr ⟨b, rfl, by omega, q3, fun i hi hd => ?_⟩), fun z => take hdk2 fun i hi hd => ?_⟩⟩
        · by_cases e : i = k
          · subst e; omega
          · exact q4 i (by omega) hd
        · have := q4 i hi hd
          omega
theorem i195 {w : Pl} {t n m x0 : Nat} {P : Pl → Prop} (hd : 6 ≤ d) (hm3 : m < 3) (hk : wOk w t n) (hm : Mst w t n s) (hx0 : okx n x0) (hx : mx n x0 s) (h : ∀ s1 : Pl, SolM w t n m x0 s1 → fFs s s1 → P s1) : Ev xs L T0 106 d 195 [rf 73, it (m : Nat)] s (qv P) := by
  have hn := hk.1.2
  have e703 : s 72 3 = (n : Nat) := hm.2.2.1.2
  have hbt := bt_lt x0
  -- s0: the plane with the list at first, where the loop begins
  have mainl : ∀ (sB : Pl), (∀ c i, c ≠ 96 → c ≠ 97 → (c = 72 → i ≠ 37) → sB c i = s c i) → (∀ r : Nat, r < n → sB 97 ((r : Nat) : Int) = s 75 ((r : Nat) : Int)) → ∀ (j : Nat) (s1 : Pl) (N : Nat) (g cs : Nat → Nat) (dn : Nat → Bool) (v3 : Int) (w4 : Option AV), cnt dn 1440 + j = 1441 → FI w t n m x0 s1 N g cs dn → (v3 = -1 ∧ (∀ i, i < N → dn i = true)) ∨ (∃ b : Nat, v3 = (b : Nat) ∧ b < N ∧ dn b = false ∧ ∀ i, i < N → dn i = false → cs b ≤ cs i) → fGo n sB s1 → Fr xs L T0 106 (d - 1) 195 67 [some (rf 73), some (it (m : Nat)), some (it (bt x0 : Nat)), some (it v3), w4] [] s1 (qv P) := by
    intro sB hsB h95 j
    have hmB : Mst w t n sB := cMst (fun c i hm => by have := mMs_out hm; exact hsB c i (by omega) (by omega) (by omega)) hm
    induction j with
    | zero =>
      intro s1 N g cs dn v3 w4 hj fi hv hf
      have := cnt_le dn 1440
      omega
    | succ j ih =>
      intro s1 N g cs dn v3 w4 hj fi hv hf
      rcases hv with ⟨rfl, hall⟩ | ⟨b, rfl, hb, hdb, hmin⟩
      · refine f195_67 ⟨fun _ => ?_, fun z => absurd (by decide) z⟩
        have e1 : s1 72 3 = (n : Nat) := (hf.mst hmB).2.2.1.2
        have eb : s 72 2 = (bt x0 : Nat) := hx.1
        refine l195d (m := m) (x0 := x0) hn s eb (fun s2 k1 k2 k3 => ?_) (fun r hr => ?_) (fun i hi => ?_) e1 n 0 s1 _ _ _ (by omega) rfl (fun _ _ _ => rfl) (fun i hi => ?_)
        · obtain ⟨⟨⟨a1, a2⟩, a3, a4, a5, _⟩, b1, b2, b3, b4, b5⟩ := fi
          refine h s2 ⟨N, g, cs, ⟨by rw [k1 72 37 (by decide) (by decide)]; exact a1, a2⟩, fun i hi => ⟨by rw [k1 93 _ (by decide) (fun e => absurd e (by decide))]; exact (a3 i hi).1, by rw [k1 94 _ (by decide) (fun e => absurd e (by decide))]; exact (a3 i hi).2.1, (b1 i hi).2⟩, a4, a5, fun y k => ?_⟩ (fun c i q1 q2 q3 q4 q5 q6 q7 q8 => ?_)
          · refine (sol_iff (D := fun y k => ∃ i, i < N ∧ g i = y ∧ cs i = k) ?_ ?_ ?_ ?_ y k).symm
            · rintro y k ⟨i, q1, rfl, rfl⟩
              exact b1 i q1
            · obtain ⟨i, q1, q2, q3⟩ := b5
              exact ⟨i, q1, q2, by omega⟩
            · rintro x a y e ⟨i, q1, rfl, rfl⟩ he hl
              obtain ⟨i2, r1, r2, r3⟩ := b4 i q1 (hall i q1) y e he hl
              exact ⟨cs i2, r3, i2, r1, r2, rfl⟩
            · rintro y a b ⟨i, q1, q2, q3⟩ ⟨i2, r1, r2, r3⟩
              have : i = i2 := by
                rcases Nat.lt_trichotomy i i2 with z | z | z
                · exact absurd (by rw [q2, r2]) (a4 i i2 z r1)
                · exact z
                · exact absurd (by rw [q2, r2]) (a4 i2 i z q1)
              subst this
              omega
          · by_cases e : c = 75
            · subst e; exact k2 i
            · by_cases e2 : c = 72 ∧ i = 2
              · rw [e2.1, e2.2]; exact k3
              · rw [k1 c i e (fun z1 z2 => e2 ⟨z1, z2⟩), hf c i q1 q2 q3 q4 q5 q6 (fun z => absurd z e) (fun z => ⟨fun z2 => e2 ⟨z, z2⟩, q8 z⟩)]
                exact hsB c i q6 q7 q8
        · rw [hf 97 _ (by decide) (by decide) (by decide) (by decide) (by decide) (by decide) (fun e => absurd e (by decide)) (fun e => absurd e (by decide))]
          exact h95 r hr
        · rw [hf 75 _ (by decide) (by decide) (by decide) (by decide) (by decide) (by decide) (fun _ => hi) (fun e => absurd e (by decide))]
          exact hsB 75 i (by decide) (by decide) (fun e => absurd e (by decide))
        · rw [hf 75 _ (by decide) (by decide) (by decide) (by decide) (by decide) (by decide) (fun _ => by omega) (fun e => absurd e (by decide))]
          exact hsB 75 i (by decide) (by decide) (fun e => absurd e (by decide))
      · have fi2 := fi
        obtain ⟨a0, b1, b2, b3, b4, b5⟩ := fi
        have hN := a0.1.2
        refine f195_67 ⟨fun z => absurd z (by omega), fun _ => ⟨⟨by omega, by omega, Or.inr rfl⟩, ?_⟩⟩
        have gi : GI w t n m x0 (zup s1 95 (b : Nat) 1) N g cs (mk9 dn b) b (g b) (cs b) := by
          refine ⟨a0.mark, b1, fun i hi => ?_, ⟨fun i hi hdi => ?_, fun i hi hdi => ?_⟩, ⟨hb, mk9_at dn b, rfl, rfl⟩, fun i hi hdi hne => b4 i hi ?_, b5⟩
          · rw [mk9_ne (show i ≠ b by omega)]; exact b2 i hi
          · by_cases e : i = b
            · subst e; exact Nat.le_refl _
            · rw [mk9_ne e] at hdi; exact b3 i b hi hb hdi hdb
          · by_cases e : i = b
            · rw [e, mk9_at] at hdi; cases hdi
            · rw [mk9_ne e] at hdi; exact hmin i hi hdi
          · rw [mk9_ne hne] at hdi; exact hdi
        have f93 : fGo n s1 (zup s1 95 (b : Nat) 1) := fun c i _ _ _ _ q _ _ _ => by rw [zune _ _ _ q]
        refine i194 (by omega) hm3 hk ((hf.trans f93).mst hmB) hx0 (a0.2.2.2.1 b hb) gi fun s2 M g1 cs1 k1 k2 k3 => ?_
        have fi3 : FI w t n m x0 s2 M g1 cs1 (mk9 dn b) := by
          obtain ⟨c0, c1, c2, ⟨c3, c3u⟩, ⟨c4, c5, c6, c7⟩, c8, c9⟩ := k1
          refine ⟨c0, c1, c2, fun i j hi hj hdi hdj => Nat.le_trans (c3 i hi hdi) (c3u j hj hdj), fun i hi hdi => ?_, c9⟩
          by_cases e : i = b
          · subst e; exact k2
          · exact c8 i hi hdi e
        have hcn : cnt (mk9 dn b) 1440 = cnt dn 1440 + 1 := by
          have := cnt_upd (f := mk9 dn b) (g := dn) (k := 1440) (p := b) (by omega) (fun r _ hr => mk9_ne hr)
          rw [hdb, mk9_at, if_neg (by decide), if_pos rfl] at this
          omega
        refine l195c fi3 (fun v3 v4 hv => ?_) M 0 _ _ (by omega) rfl (Or.inl ⟨rfl, fun i hi => absurd hi (by omega)⟩)
        exact ih s2 M g1 cs1 _ v3 _ (by rw [hcn]; omega) fi3 hv ((hf.trans f93).trans k3)
  -- the table of slots is emptied
  have tab : ∀ (sA : Pl), (∀ c i, c ≠ 97 → (c = 72 → i ≠ 37) → sA c i = s c i) → sA 72 37 = 0 → (∀ r : Nat, r < n → sA 97 ((r : Nat) : Int) = s 75 ((r : Nat) : Int)) → ∀ (j k : Nat) (s1 : Pl) (v3 : Int), k + j = 4096 → v3 = (k : Nat) → (∀ c, c ≠ 96 → s1 c = sA c) → (∀ h : Nat, h < k → s1 96 ((h : Nat) : Int) = 0) → Fr xs L T0 106 (d - 1) 195 40 [some (rf 73), some (it (m : Nat)), some (it (bt x0 : Nat)), some (it v3), none] [] s1 (qv P) := by
    intro sA hsA h37 h95 j
    induction j with
    | zero =>
      intro k s1 v3 hk9 h2 h3 h4
      have : k = 4096 := by omega
      subst this
      refine f195_40 ⟨fun _ => ?_, fun z => absurd (by omega) z⟩
      have hsB : ∀ c i, c ≠ 96 → c ≠ 97 → (c = 72 → i ≠ 37) → s1 c i = s c i := fun c i q1 q2 q3 => by rw [h3 c q1]; exact hsA c i q2 q3
      have ml0 : ML n s1 0 (fun _ => 0) (fun _ => 0) (fun _ => false) := ⟨⟨by rw [h3 72 (by decide)]; exact h37, by decide⟩, fun i hi => absurd hi (by omega), fun i j _ hj => absurd hj (by omega), fun i hi => absurd hi (by omega), fun _ => 0, fun i hi => absurd hi (by omega), fun h hh => Or.inl (h4 h hh)⟩
      have mx0 : mx n x0 s1 := ⟨by rw [hsB 72 2 (by decide) (by decide) (by decide)]; exact hx.1, fun r hr => by rw [hsB 75 _ (by decide) (by decide) (fun e => absurd e (by decide))]; exact hx.2 r hr⟩
      refine i193 (c := 0) (by omega) hn (by rw [hsB 72 3 (by decide) (by decide) (by decide)]; exact e703) ml0 mx0 hx0 rfl (fun _ => by decide) (fun q => absurd q (by decide)) (fun _ i hi => absurd hi (by omega)) (fun _ i hi => absurd hi (by omega)) (fun _ _ s2 k1 k2 => ?_)
      refine mainl s1 hsB (fun r hr => by rw [h3 97 (by decide)]; exact h95 r hr) 1441 s2 1 _ _ _ _ _ ?_ ⟨k1, fun i hi => ?_, fun i hi => rfl, fun i j hi hj hd => (by cases hd), fun i hi hd => (by cases hd), ⟨0, by omega, ext9_at _ _ _, by rw [ext9_at]; exact Nat.le_refl _⟩⟩ (Or.inr ⟨0, rfl, by omega, rfl, fun i hi _ => ?_⟩) k2.fGo
      · have : ∀ k, cnt (fun _ => false) k = 0 := fun k => by
          induction k with
          | zero => rfl
          | succ k ih => simp [cnt, ih]
        rw [this]
      · have : i = 0 := by omega
        subst this
        rw [ext9_at, ext9_at]
        exact ⟨⟨0, rfl, rfl⟩, by decide⟩
      · have : i = 0 := by omega
        subst this
        exact Nat.le_refl _
    | succ j ih =>
      intro k s1 v3 hk9 h2 h3 h4
      subst h2
      refine f195_40 ⟨fun z => absurd z (by omega), fun _ => ⟨by omega, ?_⟩⟩
      refine ih (k + 1) _ _ (by omega) (by rw [zw_id (by omega) (by omega)]; omega) (fun c hc => by rw [zune _ _ _ hc]; exact h3 c hc) (fun h hh => ?_)
      rw [zg]
      by_cases e : h = k
      · subst e; rw [if_pos ⟨rfl, rfl⟩]
      · rw [if_neg (fun q => e (by omega))]; exact h4 h (by omega)
  -- the places are kept
  have kp : ∀ (j k : Nat) (s1 : Pl) (v2 : Int), k + j = n → v2 = (k : Nat) → (∀ c, c ≠ 97 → s1 c = s c) → (∀ r : Nat, r < k → s1 97 ((r : Nat) : Int) = s 75 ((r : Nat) : Int)) → Fr xs L T0 106 (d - 1) 195 2 [some (rf 73), some (it (m : Nat)), some (it v2), none, none] [] s1 (qv P) := by
    intro j
    induction j with
    | zero =>
      intro k s1 v2 hk9 h2 h3 h4
      refine f195_2 ⟨fun _ => ?_, fun z => absurd (by rw [h3 72 (by decide), e703]; omega) z⟩
      rw [h3 72 (by decide), hx.1]
      refine tab _ (fun c i q1 q2 => ?_) (by rw [zg, if_pos ⟨rfl, rfl⟩]) (fun r hr => ?_) 4096 0 _ _ (by omega) rfl (fun _ _ => rfl) (fun h hh => absurd hh (by omega))
      · rw [zg, if_neg (fun q => q2 q.1 q.2), h3 c q1]
      · rw [zune _ _ _ (by decide)]; exact h4 r (by omega)
    | succ j ih =>
      intro k s1 v2 hk9 h2 h3 h4
      subst h2
      refine f195_2 ⟨fun z => absurd z (by rw [h3 72 (by decide), e703]; omega), fun _ => ⟨by omega, by omega, ?_⟩⟩
      refine ih (k + 1) _ _ (by omega) (by rw [zw_id (by omega) (by omega)]; omega) (fun c hc => by rw [zune _ _ _ hc]; exact h3 c hc) (fun r hr => ?_)
      rw [zg]
      by_cases e : r = k
      · subst e; rw [if_pos ⟨rfl, rfl⟩, h3 75 (by decide)]
      · rw [if_neg (fun q => e (by omega))]; exact h4 r (by omega)
  exact e195 (by omega) (f195_0 (kp n 0 s _ (by omega) rfl (fun _ _ => rfl) (fun r hr => absurd hr (by omega))))
