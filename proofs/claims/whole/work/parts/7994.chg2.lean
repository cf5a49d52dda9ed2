/-! far, foe, put, move -/
variable {xs : Nat → Int} {L : Nat} {d : Nat} {s : Pl}
/-- far -/
theorem J83 {u v h : Int} (hd : 8 ≤ d) (hI : Inv s) : Ev xs L T0 106 d 83 [rf 1, it u, it v, it h] s (qi fun r s1 => Ev xs L T0 106 d 136 [rf 73, it u, it v, it h] s1 (qi fun r2 s2 => r2 = r ∧ Inv s2)) := by
  refine (m83 (by omega)).i fun r s1 h1 => (m136 (by omega)).i fun r2 s2 h2 => ?_
  by_cases c1 : 0 ≤ u ∧ u < 4 ∧ 0 ≤ v ∧ v < 4 ∧ u ≠ v
  · rw [if_pos c1] at h1 h2
    by_cases c2 : 1 ≤ h ∧ h ≤ 9
    · rw [if_pos c2] at h1 h2
      obtain ⟨rfl, rfl⟩ := h1
      obtain ⟨rfl, rfl⟩ := h2
      refine ⟨?_, ?_⟩
      · rw [zune _ _ _ (by decide), zune _ _ _ (by decide), zune _ _ _ (by decide)]
        exact hI.1.2.1 _ (by omega) (by omega)
      · have at9 : ∀ c i, (zup (zup (zup (zup (zup s 0 9 0) 9 (4 * u + v) h) 9 (4 * v + u) h) 73 (4 * u + v) h) 73 (4 * v + u) h) c i = if (c = 9 ∨ c = 73) ∧ (i = 4 * u + v ∨ i = 4 * v + u) then h else if c = 0 ∧ i = 9 then 0 else s c i := fun c i => by
          simp only [zg]
          by_cases e : (c = 9 ∨ c = 73) ∧ (i = 4 * u + v ∨ i = 4 * v + u)
          · rw [if_pos e]
            obtain ⟨rfl | rfl, rfl | rfl⟩ := e <;> simp
          · rw [if_neg e, if_neg (by omega), if_neg (by omega), if_neg (by omega), if_neg (by omega)]
        generalize zup (zup (zup (zup (zup s 0 9 0) 9 (4 * u + v) h) 9 (4 * v + u) h) 73 (4 * u + v) h) 73 (4 * v + u) h = S at *
        have ne : ∀ c i, ¬ (c = 9 ∨ c = 73 ∨ c = 0 ∧ i = 9) → S c i = s c i := fun c i q => by rw [at9, if_neg (by omega), if_neg (by omega)]
        have e09 : S 0 9 = 0 := by rw [at9, if_neg (by omega), if_pos ⟨rfl, rfl⟩]
        have e9 : ∀ i, S 9 i = if i = 4 * u + v ∨ i = 4 * v + u then h else s 9 i := fun i => by
          rw [at9]
          by_cases e : i = 4 * u + v ∨ i = 4 * v + u
          · rw [if_pos ⟨Or.inl rfl, e⟩, if_pos e]
          · rw [if_neg (fun q => e q.2), if_neg (by omega), if_neg e]
        have e71 : ∀ i, S 73 i = if i = 4 * u + v ∨ i = 4 * v + u then h else s 73 i := fun i => by
          rw [at9]
          by_cases e : i = 4 * u + v ∨ i = 4 * v + u
          · rw [if_pos ⟨Or.inr rfl, e⟩, if_pos e]
          · rw [if_neg (fun q => e q.2), if_neg (by omega), if_neg e]
        refine Inv.of0 (JJ.chg hI.1 ne (Or.inl e09) (Or.inl fun c i m => by unfold mL at m; omega) (Or.inr ?_) (Or.inr ?_) (Or.inl fun c i m => by unfold mP at m; omega) (Or.inl fun c i m => by unfold mM at m; omega) (Or.inl fun c i m => by unfold mT at m; omega) (Or.inl fun c i m => by unfold mK at m; omega) (Or.inl fun c i m => by unfold mS at m; omega) (Or.inl fun c i m => by unfold mX at m; omega) (Or.inr ?_) (Or.inl fun c i m => by omega)) e09
        · intro i q1 q2
          rw [e71, e9]
          split
          · rfl
          · exact hI.1.2.1 i q1 q2
        · obtain ⟨w1, w2, w3, w4⟩ := hI.1.2.2.1
          refine ⟨fun i q1 q2 => ?_, fun q i q1 q2 => ?_, by rw [ne 0 2 (by omega)]; exact w3, Or.inl e09⟩
          · rw [e9]
            split
            · omega
            · exact w1 i q1 q2
          · rw [ne 0 2 (by omega)] at q
            rw [ne 18 i (by omega)]; exact w2 q i q1 q2
        · obtain ⟨w1, w2, w3, w4, w5⟩ := hI.1.2.2.2.2.2.2.2.2.2.1
          refine ⟨fun i hi => by rw [ne 87 _ (by omega)]; exact w1 i hi, fun i hi => by rw [ne 88 _ (by omega)]; exact w2 i hi, fun a b ha hb => ?_, fun q a b ha hb => ?_, fun q hq i q1 q2 => by rw [ne _ i (by omega)]; exact w5 q hq i q1 q2⟩
          · rw [e9, e9]
            by_cases e : (4 * (a : Nat) + (b : Nat) : Int) = 4 * u + v ∨ (4 * (a : Nat) + (b : Nat) : Int) = 4 * v + u
            · rw [if_pos e, if_pos (by omega)]
            · rw [if_neg e, if_neg (by omega)]; exact w3 a b ha hb
          · rw [ne 0 2 (by omega)] at q
            rw [ne 18 _ (by omega), ne 18 _ (by omega)]; exact w4 q a b ha hb
    · rw [if_neg c2] at h1 h2
      obtain ⟨rfl, rfl⟩ := h1
      obtain ⟨rfl, rfl⟩ := h2
      exact ⟨rfl, hI⟩
  · rw [if_neg c1] at h1 h2
    obtain ⟨rfl, rfl⟩ := h1
    obtain ⟨rfl, rfl⟩ := h2
    exact ⟨rfl, hI⟩
theorem foes0 : ∀ k, k < 6 → ∀ a, a < 64 → 0 ≤ zor (zand (a : Nat) (zxor (zshl 1 (k : Nat)) (-1))) (zshl 0 (k : Nat)) ∧ zor (zand (a : Nat) (zxor (zshl 1 (k : Nat)) (-1))) (zshl 0 (k : Nat)) < 64 := by decide +kernel
theorem foes1 : ∀ k, k < 6 → ∀ a, a < 64 → 0 ≤ zor (zand (a : Nat) (zxor (zshl 1 (k : Nat)) (-1))) (zshl 1 (k : Nat)) ∧ zor (zand (a : Nat) (zxor (zshl 1 (k : Nat)) (-1))) (zshl 1 (k : Nat)) < 64 := by decide +kernel
theorem foes9 {k a h : Int} (hk : 0 ≤ k ∧ k < 6) (ha : 0 ≤ a ∧ a < 64) (hh : h = 0 ∨ h = 1) : 0 ≤ zor (zand a (zxor (zshl 1 k) (-1))) (zshl h k) ∧ zor (zand a (zxor (zshl 1 k) (-1))) (zshl h k) < 64 := by
  obtain ⟨k, rfl⟩ : ∃ x : Nat, k = (x : Nat) := ⟨k.toNat, by omega⟩
  obtain ⟨a, rfl⟩ : ∃ x : Nat, a = (x : Nat) := ⟨a.toNat, by omega⟩
  rcases hh with rfl | rfl
  · exact foes0 k (by omega) a (by omega)
  · exact foes1 k (by omega) a (by omega)
/-- foe -/
theorem J91 {u v h : Int} (hd : 8 ≤ d) (hI : Inv s) : Ev xs L T0 106 d 91 [rf 1, it u, it v, it h] s (qi fun r s1 => Ev xs L T0 106 d 169 [rf 73, it u, it v, it h] s1 (qi fun r2 s2 => r2 = r ∧ Inv s2)) := by
  obtain ⟨a1, a2, a3, a4, a5, a6⟩ := hI.1.1
  have bad1 : ¬ ((0 ≤ u ∧ u < s 1 1) ∧ (0 ≤ v ∧ v < s 1 1) ∧ u ≠ v) → Ev xs L T0 106 d 169 [rf 73, it u, it v, it h] s (qi fun r2 s2 => r2 = -1 ∧ Inv s2) := fun q => e169 (by omega) (f169_0 (i135 (by omega) (by omega) (fun z1 => ⟨fun z => absurd z (by decide), fun _ => i135 (by omega) (by omega) (fun z2 => ⟨fun z => absurd z (by decide), fun _ => ⟨fun z => absurd (by omega) q, fun _ => ⟨rfl, hI⟩⟩⟩) (fun _ => ⟨fun _ => ⟨rfl, hI⟩, fun z => absurd rfl z⟩)⟩) (fun _ => ⟨fun _ => ⟨rfl, hI⟩, fun z => absurd rfl z⟩)))
  refine e91 (by omega) (f91_0 (i2 (by omega) (by omega) (fun q1 => ⟨fun z => absurd z (by decide), fun _ => i2 (by omega) (by omega) (fun q2 => ⟨fun z => absurd z (by decide), fun _ => ⟨fun q3 => ?_, fun z => bad1 (fun q => z q.2.2)⟩⟩) (fun q2 => ⟨fun _ => bad1 (fun q => q2 q.2.1), fun z => absurd rfl z⟩)⟩) (fun q1 => ⟨fun _ => bad1 (fun q => q1 q.1), fun z => absurd rfl z⟩)))
  have p1 := hI.1.2.2.2.1 u q1.1 q1.2
  have p2 := hI.1.2.2.2.1 v q2.1 q2.2
  obtain ⟨-, -, -, -, -, -, p1a, p1b⟩ := p1
  obtain ⟨-, -, -, -, -, -, p2a, p2b⟩ := p2
  have q41 : h = 0 ∨ h = 1 → Fr xs L T0 106 (d - 1) 91 41 [some (rf 1), some (it u), some (it v), some (it h)] [] s (qi fun r s1 => Ev xs L T0 106 d 169 [rf 73, it u, it v, it h] s1 (qi fun r2 s2 => r2 = r ∧ Inv s2)) := by
    intro hh
    have e11 : (zup s 0 9 0) 1 1 = s 1 1 := by rw [zune _ _ _ (by decide)]
    have e8 : (zup s 0 9 0) 8 = s 8 := zune _ _ _ (by decide)
    refine f91_41 (e5 (by omega) (f5_0 (i2 (by omega) (by omega) (fun _ => ⟨fun z => absurd z (by decide), fun _ => i2 (by omega) (by omega) (fun _ => ⟨fun _ => ⟨by omega, by omega, by omega, by omega, by omega, ?_⟩, fun z => absurd (by decide) z⟩) (fun z => absurd (by omega) z)⟩) (fun z => absurd (by omega) z))))
    have z8 : ∀ a : Int, (zup (zup s 0 9 0) 8 u a) 8 v = s 8 v := fun a => by rw [zg, if_neg (fun z => q3 z.2.symm), e8]
    rw [z8, e8]
    have ra := foes9 (k := v) (by omega) p1b hh
    have rb := foes9 (k := u) (by omega) p2b hh
    refine e169 (by omega) (f169_0 ?_)
    have hmod : ∀ (A B : Int), 0 ≤ A ∧ A < 64 → 0 ≤ B ∧ B < 64 → A = zor (zand (s 8 u) (zxor (zshl 1 v) (-1))) (zshl h v) → B = zor (zand (s 8 v) (zxor (zshl 1 u) (-1))) (zshl h u) → Ev xs L T0 106 (d - 1) 135 [rf 73, it u] (zup (zup (zup s 0 9 0) 8 u A) 8 v B) (qi fun r2 s1 => ((r2 = 0 → (-1 : Int) = zand (zshr (s 8 u) v) 1 ∧ Inv s1) ∧ (¬ (r2 = 0) → Ev xs L T0 106 (d - 1) 135 [rf 73, it v] s1 (qi fun r4 s3 => ((r4 = 0 → (-1 : Int) = zand (zshr (s 8 u) v) 1 ∧ Inv s3) ∧ (¬ (r4 = 0) → ((¬ u = v → Ev xs L T0 106 (d - 1) 132 [it h, it 0, it 1] s3 (qi fun r6 s5 => ((¬ r6 = 0 → (0 ≤ u ∧ u < 7) ∧ (0 ≤ u ∧ u < 7) ∧ (0 ≤ u ∧ u < 7) ∧ (0 ≤ v ∧ v < 7) ∧ (0 ≤ v ∧ v < 7) ∧ zand (zshr (s5 80 u) v) 1 = zand (zshr (s 8 u) v) 1 ∧ Inv (zup (zup s5 80 u (zor (zand (s5 80 u) (zxor (zshl 1 v) (-1))) (zshl h v))) 80 v (zor (zand ((zup s5 80 u (zor (zand (s5 80 u) (zxor (zshl 1 v) (-1))) (zshl h v))) 80 v) (zxor (zshl 1 u) (-1))) (zshl h u)))) ∧ (¬ (¬ r6 = 0) → (-2 : Int) = zand (zshr (s 8 u) v) 1 ∧ Inv s5)))) ∧ (¬ (¬ u = v) → (-1 : Int) = zand (zshr (s 8 u) v) 1 ∧ Inv s3)))))))) := by
      intro A B rA rB eA eB
      have at9 : ∀ c i, (zup (zup (zup (zup (zup s 0 9 0) 8 u A) 8 v B) 80 u A) 80 v B) c i = if (c = 8 ∨ c = 80) ∧ i = v then B else if (c = 8 ∨ c = 80) ∧ i = u then A else if c = 0 ∧ i = 9 then 0 else s c i := fun c i => by
        simp only [zg]
        by_cases e : (c = 8 ∨ c = 80) ∧ i = v
        · rw [if_pos e]
          obtain ⟨rfl | rfl, rfl⟩ := e <;> simp
        · rw [if_neg e]
          by_cases e1 : (c = 8 ∨ c = 80) ∧ i = u
          · rw [if_pos e1]
            obtain ⟨rfl | rfl, rfl⟩ := e1 <;> simp [q3]
          · rw [if_neg e1, if_neg (by omega), if_neg (by omega), if_neg (by omega), if_neg (by omega)]
      have e703 : (zup (zup (zup s 0 9 0) 8 u A) 8 v B) 72 3 = s 1 1 := by rw [zune _ _ _ (by decide), zune _ _ _ (by decide), zune _ _ _ (by decide)]; exact a2.1
      have e78 : (zup (zup (zup s 0 9 0) 8 u A) 8 v B) 80 = s 80 := by rw [zune _ _ _ (by decide), zune _ _ _ (by decide), zune _ _ _ (by decide)]
      refine i135 (by omega) (by omega) (fun _ => ⟨fun z => absurd z (by decide), fun _ => i135 (by omega) (by omega) (fun _ => ⟨fun z => absurd z (by decide), fun _ => ⟨fun _ => i132 (by omega) (fun _ => ⟨fun _ => ⟨by omega, by omega, by omega, by omega, by omega, by rw [e78, p1a], ?_⟩, fun z => absurd (by decide) z⟩) (fun z => absurd (by omega) z), fun z => absurd q3 z⟩⟩) (fun z => absurd (by omega) z)⟩) (fun z => absurd (by omega) z)
      have z78 : ∀ a : Int, (zup (zup (zup (zup s 0 9 0) 8 u A) 8 v B) 80 u a) 80 v = s 8 v := fun a => by rw [zg, if_neg (fun z => q3 z.2.symm), e78, p2a]
      rw [z78, e78, p1a, ← eA, ← eB]
      generalize zup (zup (zup (zup (zup s 0 9 0) 8 u A) 8 v B) 80 u A) 80 v B = S at *
      have ne : ∀ c i, ¬ (c = 8 ∨ c = 80 ∨ c = 0 ∧ i = 9) → S c i = s c i := fun c i q => by rw [at9, if_neg (by omega), if_neg (by omega), if_neg (by omega)]
      have e09 : S 0 9 = 0 := by rw [at9, if_neg (by omega), if_neg (by omega), if_pos ⟨rfl, rfl⟩]
      refine Inv.of0 (JJ.chg hI.1 ne (Or.inl e09) (Or.inl fun c i m => by unfold mL at m; omega) (Or.inl fun c i m => by unfold mH at m; omega) (Or.inl fun c i m => by omega) (Or.inr ?_) (Or.inl fun c i m => by unfold mM at m; omega) (Or.inl fun c i m => by unfold mT at m; omega) (Or.inl fun c i m => by unfold mK at m; omega) (Or.inl fun c i m => by unfold mS at m; omega) (Or.inl fun c i m => by unfold mX at m; omega) (Or.inl fun c i m => by omega) (Or.inl fun c i m => by omega)) e09
      intro p w0 w1
      rw [ne 1 1 (by omega)] at w1
      obtain ⟨b1, b2, b3, b4, b5, b6, b7, b8⟩ := hI.1.2.2.2.1 p w0 w1
      unfold vP1
      rw [ne 75 p (by omega), ne 2 p (by omega), ne 74 p (by omega), ne 3 p (by omega), ne 76 p (by omega), ne 4 p (by omega), ne 77 p (by omega), ne 5 p (by omega), ne 78 p (by omega), ne 6 p (by omega), ne 79 p (by omega), ne 7 p (by omega)]
      refine ⟨b1, b2, b3, b4, b5, b6, ?_⟩
      have eC : ∀ c, c = 8 ∨ c = 80 → S c p = if p = v then B else if p = u then A else s c p := fun c hc => by
        rw [at9]
        by_cases ev : p = v
        · rw [if_pos ⟨hc, ev⟩, if_pos ev]
        · rw [if_neg (fun z => ev z.2), if_neg ev]
          by_cases eu : p = u
          · rw [if_pos ⟨hc, eu⟩, if_pos eu]
          · rw [if_neg (fun z => eu z.2), if_neg eu, if_neg (by omega)]
      rw [eC 80 (Or.inr rfl), eC 8 (Or.inl rfl)]
      by_cases ev : p = v
      · rw [if_pos ev, if_pos ev]; exact ⟨rfl, rB⟩
      · rw [if_neg ev, if_neg ev]
        by_cases eu : p = u
        · rw [if_pos eu, if_pos eu]; exact ⟨rfl, rA⟩
        · rw [if_neg eu, if_neg eu]
          exact ⟨b7, b8⟩
    exact hmod _ _ ra rb rfl rfl
  exact ⟨fun z => q41 (Or.inl z), fun z => ⟨fun z2 => q41 (Or.inr z2), fun z2 => e169 (by omega) (f169_0 (i135 (by omega) (by omega) (fun _ => ⟨fun z => absurd z (by decide), fun _ => i135 (by omega) (by omega) (fun _ => ⟨fun z => absurd z (by decide), fun _ => ⟨fun _ => i132 (by omega) (fun z3 => absurd (by omega) (show ¬ False from id)) (fun _ => ⟨fun z => absurd rfl z, fun _ => ⟨rfl, hI⟩⟩), fun z => absurd q3 z⟩⟩) (fun z => absurd (by omega) z)⟩) (fun z => absurd (by omega) z)))⟩⟩
/-- put -/
theorem J93 {u v : Int} (hd : 8 ≤ d) (hI : Inv s) : Ev xs L T0 106 d 93 [rf 1, it u, it v] s (qi fun r s1 => Ev xs L T0 106 d 171 [rf 73, it u, it v] s1 (qi fun r2 s2 => r2 = r ∧ Inv s2)) := by
  obtain ⟨a1, a2, a3, a4, a5, a6⟩ := hI.1.1
  obtain ⟨n, hn⟩ : ∃ n : Nat, s 1 1 = (n : Nat) := ⟨(s 1 1).toNat, by omega⟩
  have hvB := hI.1.2.2.2.2.2.2.2.2.2.2
  have hB := hvB.1
  rw [hn, Int.toNat_natCast] at hB
  have bad5 : ¬ (0 ≤ u ∧ u < s 1 1) → Ev xs L T0 106 d 171 [rf 73, it u, it v] s (qi fun r2 s2 => r2 = -5 ∧ Inv s2) := fun q => e171 (by omega) (f171_0 (i135 (by omega) (by omega) (fun z => absurd (by omega) q) (fun _ => ⟨fun z => absurd rfl z, fun _ => ⟨rfl, hI⟩⟩)))
  refine e93 (by omega) (f93_0 (i2 (by omega) (by omega) (fun q => ⟨fun _ => ?_, fun z => absurd (by decide) z⟩) (fun q => ⟨fun z => absurd rfl z, fun _ => bad5 q⟩)))
  have bad7 : ¬ (0 ≤ v ∧ v ≤ 4) → Ev xs L T0 106 d 171 [rf 73, it u, it v] s (qi fun r2 s2 => r2 = -7 ∧ Inv s2) := fun q2 => e171 (by omega) (f171_0 (i135 (by omega) (by omega) (fun _ => ⟨fun _ => i132 (by omega) (fun z => absurd z q2) (fun _ => ⟨fun z => absurd rfl z, fun _ => ⟨rfl, hI⟩⟩), fun z => absurd (by decide) z⟩) (fun z => absurd (by omega) z)))
  refine ⟨fun z => bad7 (by omega), fun z => ⟨fun z2 => ?_, fun z2 => bad7 (by omega)⟩⟩
  obtain ⟨k, rfl⟩ : ∃ k : Nat, u = (k : Nat) := ⟨u.toNat, by omega⟩
  have pk := hI.1.2.2.2.1 k q.1 q.2
  obtain ⟨f, hf⟩ : ∃ f : Nat → Bool, f = fun p : Nat => decide (s 2 p = 4) := ⟨_, rfl⟩
  have hfk : f k = true ↔ s 2 (k : Nat) = 4 := by rw [hf]; simp
  have hcnt := cnt_upd (f := fun r => f r && decide (r ≠ k)) (g := f) (k := n) (p := k) (by omega) (fun r _ hr => by simp [hr])
  have hcntk : (f k && decide (k ≠ k)) = false := by simp
  simp only [hcntk] at hcnt
  rw [if_neg (by decide : ¬ (false = true))] at hcnt
  rw [← hf] at hB
  have e138 : cnt (fun p : Nat => decide (s 75 p = 4)) n = cnt f n := by
    rw [hf]; exact cnt_cong fun p hp => by rw [(hI.1.2.2.2.1 p (by omega) (by omega)).1.1]
  have good : (v = 4 → f k = true ∨ cnt f n < 3) → (∀ v3 : Int, Fr xs L T0 106 (d - 1) 93 57 [some (rf 1), some (it (k : Nat)), some (it v), some (it v3), none] [] s (qi fun r s1 => Ev xs L T0 106 d 171 [rf 73, it (k : Nat), it v] s1 (qi fun r2 s2 => r2 = r ∧ Inv s2))) := by
    intro hg v3
    refine f93_57 ⟨by omega, by omega, ?_⟩
    have e2 : (zup s 0 9 0) 2 (k : Nat) = s 2 (k : Nat) := by rw [zune _ _ _ (by decide)]
    rw [e2]
    have e703 : (zup (zup s 0 9 0) 2 (k : Nat) v) 72 3 = s 1 1 := by rw [zune _ _ _ (by decide), zune _ _ _ (by decide)]; exact a2.1
    have e73 : (zup (zup s 0 9 0) 2 (k : Nat) v) 75 = s 75 := by rw [zune _ _ _ (by decide), zune _ _ _ (by decide)]
    have fin : Fr xs L T0 106 (d - 1) 171 50 [some (rf 73), some (it (k : Nat)), some (it v), none] [] (zup (zup s 0 9 0) 2 (k : Nat) v) (qi fun r2 s2 => r2 = s 2 (k : Nat) ∧ Inv s2) := by
      refine f171_50 ⟨by omega, by omega, by rw [e73]; exact pk.1.1, ?_⟩
      have at9 : ∀ c i, (zup (zup (zup s 0 9 0) 2 (k : Nat) v) 75 (k : Nat) v) c i = if (c = 2 ∨ c = 75) ∧ i = (k : Nat) then v else if c = 0 ∧ i = 9 then 0 else s c i := fun c i => by
        simp only [zg]
        by_cases e : (c = 2 ∨ c = 75) ∧ i = (k : Nat)
        · rw [if_pos e]
          obtain ⟨rfl | rfl, rfl⟩ := e <;> simp
        · rw [if_neg e, if_neg (by omega), if_neg (by omega)]
      generalize zup (zup (zup s 0 9 0) 2 (k : Nat) v) 75 (k : Nat) v = S at *
      have ne : ∀ c i, ¬ (c = 2 ∨ c = 75 ∨ c = 0 ∧ i = 9) → S c i = s c i := fun c i q => by rw [at9, if_neg (by omega), if_neg (by omega)]
      have e09 : S 0 9 = 0 := by rw [at9, if_neg (by omega), if_pos ⟨rfl, rfl⟩]
      have eC : ∀ c, c = 2 ∨ c = 75 → ∀ p : Int, S c p = if p = (k : Nat) then v else s c p := fun c hc p => by
        rw [at9]
        by_cases ev : p = (k : Nat)
        · rw [if_pos ⟨hc, ev⟩, if_pos ev]
        · rw [if_neg (fun z => ev z.2), if_neg ev, if_neg (by omega)]
      refine Inv.of0 (JJ.chg hI.1 ne (Or.inl e09) (Or.inl fun c i m => by unfold mL at m; omega) (Or.inl fun c i m => by unfold mH at m; omega) (Or.inl fun c i m => by omega) (Or.inr ?_) (Or.inl fun c i m => by unfold mM at m; omega) (Or.inl fun c i m => by unfold mT at m; omega) (Or.inl fun c i m => by unfold mK at m; omega) (Or.inl fun c i m => by unfold mS at m; omega) (Or.inl fun c i m => by unfold mX at m; omega) (Or.inl fun c i m => by omega) (Or.inr ?_)) e09
      · intro p w0 w1
        rw [ne 1 1 (by omega)] at w1
        obtain ⟨b1, b2, b3, b4, b5, b6, b7⟩ := hI.1.2.2.2.1 p w0 w1
        unfold vP1
        rw [eC 75 (Or.inr rfl), eC 2 (Or.inl rfl), ne 74 p (by omega), ne 3 p (by omega), ne 76 p (by omega), ne 4 p (by omega), ne 77 p (by omega), ne 5 p (by omega), ne 78 p (by omega), ne 6 p (by omega), ne 79 p (by omega), ne 7 p (by omega), ne 80 p (by omega), ne 8 p (by omega)]
        refine ⟨?_, b2, b3, b4, b5, b6, b7⟩
        by_cases ev : p = (k : Nat)
        · rw [if_pos ev, if_pos ev]; exact ⟨rfl, by omega, by omega⟩
        · rw [if_neg ev, if_neg ev]; exact b1
      · refine ⟨?_, fun q => ?_⟩
        · rw [ne 1 1 (by omega), hn, Int.toNat_natCast]
          have hc2 := cnt_upd (f := fun p : Nat => decide (S 2 p = 4)) (g := f) (k := n) (p := k) (by omega) (fun r _ hr => by
            rw [hf, eC 2 (Or.inl rfl), if_neg (by omega)])
          have ek : S 2 (k : Nat) = v := by rw [eC 2 (Or.inl rfl), if_pos rfl]
          simp only [ek] at hc2
          by_cases e4 : v = 4
          · have := hg e4
            rw [if_pos (show decide (v = 4) = true by simp [e4])] at hc2
            by_cases hk2 : f k = true
            · rw [if_pos hk2] at hc2; omega
            · have : cnt f n < 3 := by
                rcases this with q | q
                · exact absurd q hk2
                · exact q
              omega
          · rw [if_neg (show ¬ decide (v = 4) = true by simp [e4])] at hc2
            omega
        · rw [ne 0 2 (by omega)] at q
          have := hvB.2 q
          rw [ne 10 1 (by omega), cnt_cong (f := fun p => decide (S 11 p = 4)) (g := fun p => decide (s 11 p = 4)) (fun p _ => by rw [ne 11 _ (by omega)])]
          exact this
    refine e171 (by omega) (f171_0 (i135 (by omega) (by omega) (fun _ => ⟨fun _ => i132 (by omega) (fun _ => ⟨fun _ => ⟨fun _ => fin, fun y => ⟨by omega, ?_⟩⟩, fun z => absurd (by decide) z⟩) (fun z => absurd (by omega) z), fun z => absurd (by decide) z⟩) (fun z => absurd (by omega) z)))
    rw [e73, pk.1.1]
    refine ⟨fun _ => fin, fun y2 => (m138 n (by omega) (by omega) (by omega)).i ?_⟩
    rintro r2 s2 ⟨rfl, rfl⟩
    rw [e73, e138]
    have := hg (Classical.not_not.mp y)
    have : cnt f n < 3 := by
      rcases this with q | q
      · exact absurd (hfk.mp q) y2
      · exact q
    exact ⟨fun _ => fin, fun y3 => absurd (by omega) y3⟩
  refine (m6 n hn (by omega) (by omega)).i ?_
  rintro r2 s2 ⟨rfl, rfl⟩
  refine ⟨fun y => good (fun z => absurd z y) _, fun y => ?_⟩
  rw [← hf, clr_btn (by omega) (by omega)]
  refine i228 (btn_lt64 _ (by omega)) (by omega) ?_
  rw [pop_btn _ (by omega)]
  have y4 := Classical.not_not.mp y
  refine ⟨fun y2 => good (fun _ => ?_) _, fun y2 => ?_⟩
  · by_cases hk2 : f k = true
    · exact Or.inl hk2
    · rw [if_neg hk2] at hcnt
      exact Or.inr (by omega)
  · have hk2 : ¬ f k = true := fun q => by rw [if_pos q] at hcnt; omega
    rw [if_neg hk2] at hcnt
    refine e171 (by omega) (f171_0 (i135 (by omega) (by omega) (fun _ => ⟨fun _ => i132 (by omega) (fun _ => ⟨fun _ => ⟨fun z => absurd y4 z, fun _ => ⟨by omega, ?_⟩⟩, fun z => absurd (by decide) z⟩) (fun z => absurd (by omega) z), fun z => absurd (by decide) z⟩) (fun z => absurd (by omega) z)))
    rw [pk.1.1]
    refine ⟨fun z => absurd (hfk.mpr z) hk2, fun _ => (m138 n (by omega) (by omega) (by omega)).i ?_⟩
    rintro r3 s3 ⟨rfl, rfl⟩
    rw [e138]
    exact ⟨fun z => absurd (by omega) z, fun _ => ⟨rfl, hI⟩⟩
