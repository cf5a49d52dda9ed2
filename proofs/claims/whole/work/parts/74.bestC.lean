variable {xs : Nat → Int} {L : Nat} {d : Nat} {s : Pl}
theorem DD.start (w : Pl) (t n m x0 Lm : Nat) : DD w t n m x0 Lm x0 0 := ⟨⟨0, rfl, rfl⟩, fun _ _ _ => Nat.zero_le _, Nat.zero_le _⟩
theorem i38w {w : Pl} {t n p : Nat} {hr : Int} {P : Int → Pl → Prop} (hd : 4 ≤ d) (hk : wOk w t n) (hw : sW w s) (hp : p < n) (hl : s 57 1 = ((21 + 4 * t + 1 : Nat) : Int)) (h : ∀ s2 : Pl, kL t s s2 → P (gainV w t p hr) s2) : Ev xs L T0 106 d 38 [rf 58, it (p : Nat), it hr] s (qi P) := by
  obtain ⟨ht, hg⟩ := hk.2.1
  have e1 := hw _ (stc22 t ht).1
  have e2 := hw _ (stc22 t ht).2
  have e3 : s 1 1 = (n : Nat) := by rw [hw 1 rfl]; exact hk.1.1
  have hn := hk.1.2
  refine i38 ht hd (by omega) (by omega) hl (by rw [e1, e2]; exact hg) fun s2 hs2 => ?_
  rw [e1, e2, hw 4 rfl, hw 5 rfl, hw 6 rfl]
  exact h s2 hs2
theorem gsm_cong {w : Pl} {t y z : Nat} {hr : Int} {k : Nat} (h : ∀ p, p < k → (((pl y p : Nat) : Int) = w 4 p ↔ ((pl z p : Nat) : Int) = w 4 p)) : gsm w t y hr k = gsm w t z hr k := by
  induction k with
  | zero => rfl
  | succ k ih =>
    simp only [gsm]
    rw [ih (fun p hp => h p (by omega))]
    have := h k (by omega)
    by_cases e : ((pl y k : Nat) : Int) = w 4 k
    · rw [if_pos e, if_pos (this.mp e)]
    · rw [if_neg e, if_neg (fun q => e (this.mpr q))]
theorem aw_eq {w : Pl} {n y z : Nat} (h : awV w n y = awV w n z) : ∀ p, p < n → (((pl y p : Nat) : Int) = w 4 p ↔ ((pl z p : Nat) : Int) = w 4 p) := by
  intro p hp
  have h1 := btn_bit (fun r => decide (((pl y r : Nat) : Int) = w 4 r)) n p
  have h2 := btn_bit (fun r => decide (((pl z r : Nat) : Int) = w 4 r)) n p
  unfold awV at h
  rw [h, h2] at h1
  simp [hp] at h1
  exact h1.symm
theorem i65 {w : Pl} {t n y : Nat} {hr : Int} {P : Int → Pl → Prop} (hd : 5 ≤ d) (hk : wOk w t n) (hw : sW w s) (hl : s 57 1 = ((21 + 4 * t + 1 : Nat) : Int)) (h : ∀ s2 : Pl, kL t s s2 → P (gsm w t y hr n) s2) : Ev xs L T0 106 d 65 [rf 65, it (awV w n y : Nat), it hr] s (qi P) := by
  have hn := hk.1.2
  have ht := hk.2.1.1
  have l : ∀ (j k : Nat) (s1 : Pl) (v3 v4 : Int), k + j = 6 → v4 = (k : Nat) → v3 = gsm w t y hr (min k n) → kL t s s1 → Fr xs L T0 106 (d - 1) 65 5 [some (rf 65), some (it (awV w n y : Nat)), some (it hr), some (it v3), some (it v4)] [] s1 (qi P) := by
    intro j
    induction j with
    | zero =>
      intro k s1 v3 v4 hk9 h4 h3 hs1
      refine f65_5 ⟨fun _ => ?_, fun z => absurd (by omega) z⟩
      rw [h3, Nat.min_eq_right (by omega)]
      exact h s1 hs1
    | succ j ih =>
      intro k s1 v3 v4 hk9 h4 h3 hs1
      subst h4
      have zk : ∀ _ : Unit, zw ((k : Nat) + 1) = ((k + 1 : Nat) : Int) := fun _ => by rw [zw_id (by omega) (by omega)]; omega
      have hb : zand (zshr (awV w n y : Nat) (k : Nat)) 1 = if (decide (k < n) && decide (((pl y k : Nat) : Int) = w 4 k)) = true then 1 else 0 := tbn hn (by omega)
      refine f65_5 ⟨fun z => absurd z (by omega), fun _ => ?_⟩
      rw [hb]
      by_cases hkn : k < n
      · have em : min (k + 1) n = k + 1 := by omega
        have em2 : min k n = k := by omega
        by_cases e : ((pl y k : Nat) : Int) = w 4 k
        · rw [if_pos (by simp [hkn, e])]
          refine ⟨fun z => absurd z (by decide), fun _ => i38w (by omega) hk (hw.fLn hs1.fLn) hkn (by rw [hs1 57 1 (by decide) (by omega)]; exact hl) fun s2 hs2 => f65_34 ?_⟩
          rw [zk ()]
          have r1 := gsm_rng w t y hr k
          have r2 := gainV_rng w t k hr
          refine ih (k + 1) s2 _ _ (by omega) rfl ?_ (hs1.trans hs2)
          rw [h3, em, em2, zw_id (by omega) (by omega)]
          simp only [gsm]
          rw [if_pos e]
        · rw [if_neg (by simp [e])]
          refine ⟨fun _ => f65_34 ?_, fun z => absurd rfl z⟩
          rw [zk ()]
          refine ih (k + 1) s1 _ _ (by omega) rfl ?_ hs1
          rw [h3, em, em2]
          simp only [gsm]
          rw [if_neg e]; omega
      · rw [if_neg (by simp [hkn])]
        refine ⟨fun _ => f65_34 ?_, fun z => absurd rfl z⟩
        rw [zk ()]
        refine ih (k + 1) s1 _ _ (by omega) rfl ?_ hs1
        rw [h3, Nat.min_eq_right (by omega), Nat.min_eq_right (by omega)]
  refine e65 (by omega) (f65_0 (l 6 0 s _ _ rfl rfl ?_ (kL.refl t s)))
  simp [gsm]
theorem i64 {w : Pl} {t n N c b0 b1 : Nat} {f : Nat → Nat} {P : Int → Pl → Prop} (hd : 6 ≤ d) (hk : wOk w t n) (hw : sW w s) (hl : s 57 1 = ((21 + 4 * t + 1 : Nat) : Int)) (hc : c ≤ 400) (hN : N ≤ 1440) (ho : ∀ i : Nat, i < N → s 66 (i : Nat) = ((f i + 65536 * awV w n (f i) : Nat) : Int)) (hf : ∀ i, i < N → f i < 62500) (h0 : s 67 (c : Nat) = (b0 : Nat)) (h1 : ∀ _ : Unit, s 67 ((c + 1 : Nat) : Int) = (b1 : Nat)) (hb : b0 ≤ b1 ∧ b1 ≤ N)
    (h : ∀ (r : Int) (s2 : Pl), kL t s s2 → ((r = -1 ∧ b0 = b1) ∨ ∃ i, b0 ≤ i ∧ i < b1 ∧ r = gsm w t (f i) (c : Nat) n) → (∀ i, b0 ≤ i → i < b1 → gsm w t (f i) (c : Nat) n ≤ r) → P r s2) : Ev xs L T0 106 d 64 [rf 65, it (c : Nat)] s (qi P) := by
  have hn := hk.1.2
  have ht := hk.2.1.1
  have zc : ∀ _ : Unit, zw ((c : Nat) + 1) = ((c + 1 : Nat) : Int) := fun _ => by rw [zw_id (by omega) (by omega)]; omega
  have l : ∀ (j k : Nat) (s1 : Pl) (v2 v3 v4 : Int) (w5 : Option AV), k + j = b1 → b0 ≤ k → v4 = (k : Nat) → kL t s s1 → ((v2 = -1 ∧ b0 = k) ∨ ∃ i, b0 ≤ i ∧ i < k ∧ v2 = gsm w t (f i) (c : Nat) n) → (∀ i, b0 ≤ i → i < k → gsm w t (f i) (c : Nat) n ≤ v2) → (v3 = -1 ∨ ∃ i, b0 ≤ i ∧ i < k ∧ v3 = (awV w n (f i) : Nat)) → Fr xs L T0 106 (d - 1) 64 20 [some (rf 65), some (it (c : Nat)), some (it v2), some (it v3), some (it ((b1 : Nat) : Int)), some (it v4), w5] [] s1 (qi P) := by
    intro j
    induction j with
    | zero =>
      intro k s1 v2 v3 v4 w5 hk9 hk0 h4 hs1 g1 g2 g3
      have e : k = b1 := by omega
      subst e
      exact f64_20 ⟨fun _ => h v2 s1 hs1 g1 g2, fun z => absurd (by omega) z⟩
    | succ j ih =>
      intro k s1 v2 v3 v4 w5 hk9 hk0 h4 hs1 g1 g2 g3
      subst h4
      have zk : ∀ _ : Unit, zw ((k : Nat) + 1) = ((k + 1 : Nat) : Int) := fun _ => by rw [zw_id (by omega) (by omega)]; omega
      have ea : zshr (s1 66 ((k : Nat) : Int)) 16 = (awV w n (f k) : Nat) := by
        have haw : awV w n (f k) < 64 := btn_lt64 _ hn
        have hf := hf k (by omega)
        rw [hs1 66 _ (by decide) (by omega), ho k (by omega), show (16 : Int) = ((16 : Nat) : Int) from rfl, zshr_nat (by omega) (by decide)]
        congr 1
        omega
      refine f64_20 ?_
      rw [ea]
      refine ⟨fun z => absurd z (by omega), fun _ => ⟨by omega, fun z => f64_60 ?_, fun z => ?_⟩⟩
      · rw [zk ()]
        rcases g3 with q | ⟨i, q1, q2, q3⟩
        · omega
        · have hG : gsm w t (f k) (c : Nat) n = gsm w t (f i) (c : Nat) n := gsm_cong (aw_eq (by omega))
          refine ih (k + 1) s1 v2 _ _ _ (by omega) (by omega) rfl hs1 (Or.inr ?_) (fun i2 r1 r2 => ?_) (Or.inr ⟨i, q1, by omega, q3⟩)
          · rcases g1 with ⟨_, u2⟩ | ⟨i3, u1, u2, u3⟩
            · omega
            · exact ⟨i3, u1, by omega, u3⟩
          · by_cases e : i2 = k
            · subst e; rw [hG]; exact g2 i q1 q2
            · exact g2 i2 r1 (by omega)
      · refine i65 (by omega) hk (hw.fLn hs1.fLn) (by rw [hs1 57 1 (by decide) (by omega)]; exact hl) fun s2 hs2 => i230 (by omega) (f64_60 ?_)
        rw [zk ()]
        have hr := gsm_rng w t (f k) (c : Nat) n
        by_cases e : v2 < gsm w t (f k) (c : Nat) n
        · rw [if_pos e]
          refine ih (k + 1) s2 _ _ _ _ (by omega) (by omega) rfl (hs1.trans hs2) (Or.inr ⟨k, hk0, by omega, rfl⟩) (fun i2 r1 r2 => ?_) (Or.inr ⟨k, hk0, by omega, rfl⟩)
          by_cases e2 : i2 = k
          · subst e2; exact Int.le_refl _
          · have := g2 i2 r1 (by omega); omega
        · rw [if_neg e]
          refine ih (k + 1) s2 _ _ _ _ (by omega) (by omega) rfl (hs1.trans hs2) (Or.inr ?_) (fun i2 r1 r2 => ?_) (Or.inr ⟨k, hk0, by omega, rfl⟩)
          · rcases g1 with ⟨u1, u2⟩ | ⟨i3, u1, u2, u3⟩
            · omega
            · exact ⟨i3, u1, by omega, u3⟩
          · by_cases e2 : i2 = k
            · subst e2; omega
            · exact g2 i2 r1 (by omega)
  refine e64 (by omega) (f64_0 ?_)
  rw [zc ()]
  refine i246 (by omega) (by omega) (h1 ()) (by omega) (i246 (by omega) (by omega) h0 (by omega) ?_)
  exact l (b1 - b0) b0 s _ _ _ _ (by omega) (Nat.le_refl _) rfl (kL.refl t s) (Or.inl ⟨rfl, rfl⟩) (fun i q1 q2 => absurd q1 (by omega)) (Or.inl rfl)
def kB (t : Nat) (s s1 : Pl) : Prop := ∀ c i, c ≠ 58 → c ≠ 24 + 4 * t → (c = 64 → i ≠ 6 ∧ i ≠ 7) → s1 c i = s c i
theorem kL.kB {t : Nat} {s s1 : Pl} (h : kL t s s1) : kB t s s1 := fun c i a b _ => h c i a b
theorem kB.trans {t : Nat} {s s1 s2 : Pl} (h : kB t s s1) (h2 : kB t s1 s2) : kB t s s2 := fun c i a b e => by rw [h2 c i a b e, h c i a b e]
theorem sW.kB {t : Nat} {w s s1 : Pl} (hw : sW w s) (h : kB t s s1) : sW w s1 := fun c hc => by
  rw [← hw c hc]
  have := stc_out hc
  exact funext fun i => h c i (by omega) (by omega) (by omega)
theorem i63 {w : Pl} {t n x0 hour : Nat} {P : Pl → Prop} (hd : 7 ≤ d) (hk : wOk w t n) (hw : sW w s) (hl : s 57 1 = ((21 + 4 * t + 1 : Nat) : Int)) (hh : hour ≤ 400) (hs : SolC w t n 0 x0 400 s)
    (h : ∀ s2 : Pl, kB t s s2 → bstV w t n x0 hour (s2 64 6) (s2 64 7) → P s2) : Ev xs L T0 106 d 63 [rf 65, it (hour : Nat)] s (qv P) := by
  obtain ⟨N, C, f, B, ⟨a1, a2⟩, ⟨a3, a4, a5⟩, a6, ⟨b1, b2, b3, b4⟩, a7, a8, a9⟩ := hs
  have hmono := B_mono b3
  have ht := hk.2.1.1
  have l : ∀ (j c : Nat) (s1 : Pl) (v2 : Int) (w3 : Option AV), c + j = 402 → c ≤ C → v2 = (c : Nat) → kB t s s1 → ((c = 0 ∧ s1 64 6 = -1) ∨ (0 < c ∧ (∃ i k, k < c ∧ k ≤ hour ∧ B k ≤ i ∧ i < B (k + 1) ∧ s1 64 6 = gsm w t (f i) (k : Nat) n ∧ s1 64 7 = (k : Nat)) ∧ ∀ i k, k < c → k ≤ hour → B k ≤ i → i < B (k + 1) → gsm w t (f i) (k : Nat) n < s1 64 6 ∨ gsm w t (f i) (k : Nat) n = s1 64 6 ∧ s1 64 7 ≤ (k : Nat))) → Fr xs L T0 106 (d - 1) 63 12 [some (rf 65), some (it (hour : Nat)), some (it v2), w3] [] s1 (qv P) := by
    intro j
    induction j with
    | zero => intro c s1 v2 w3 hc hcC h2 hs1 g; omega
    | succ j ih =>
      intro c s1 v2 w3 hc hcC h2 hs1 g
      subst h2
      have e5 : s1 64 5 = (C : Nat) := by rw [hs1 64 5 (by decide) (by omega) (by decide)]; exact a3
      have ending : (C ≤ c ∨ hour < c) → P s1 := by
        intro he
        refine h s1 hs1 ?_
        rcases g with ⟨q, _⟩ | ⟨q0, ⟨i, k, q1, q2, q3, q4, q5, q6⟩, q7⟩
        · omega
        · refine ⟨⟨f i, k, (a9 _ _).mpr ⟨by omega, i, q3, q4, rfl⟩, q2, q5, q6⟩, fun y k2 hd9 hk2 => ?_⟩
          obtain ⟨r1, i2, r2, r3, r4⟩ := (a9 _ _).mp hd9
          rw [← r4]
          exact q7 i2 k2 (by omega) hk2 r2 r3
      have zc : ∀ _ : Unit, zw ((c : Nat) + 1) = ((c + 1 : Nat) : Int) := fun _ => by rw [zw_id (by omega) (by omega)]; omega
      refine f63_12 ?_
      rw [e5]
      refine ⟨fun z => ending (Or.inl (by omega)), fun hcC2 => ⟨fun z => ending (Or.inr (by omega)), fun hch => ?_⟩⟩
      have hcl : c < C := by omega
      have hBN : B (c + 1) ≤ N := by rw [← b2]; exact hmono _ _ (by omega) (by omega)
      have e65 : ∀ j : Nat, j ≤ C → s1 67 ((j : Nat) : Int) = (B j : Nat) := fun j hj => by rw [hs1 67 _ (by decide) (by omega) (fun e => absurd e (by decide))]; exact b4 j hj
      refine i64 (N := N) (b0 := B c) (b1 := B (c + 1)) (f := f) (by omega) hk (hw.kB hs1) (by rw [hs1 57 1 (by decide) (by omega) (by decide)]; exact hl) (by omega) a2 (fun i hi => by rw [hs1 66 _ (by decide) (by omega) (fun e => absurd e (by decide))]; exact a6 i hi) (fun i hi => (a8 i hi).1) (e65 c (by omega)) (fun _ => e65 (c + 1) (by omega)) ⟨b3 c hcl, hBN⟩ fun r s2 hs2 g1 g2 => ?_
      have e26 : s2 64 6 = s1 64 6 := hs2 64 6 (by decide) (by omega)
      have e27 : s2 64 7 = s1 64 7 := hs2 64 7 (by decide) (by omega)
      have hsB := hs1.trans hs2.kB
      rw [e26]
      refine ⟨fun z => f63_49 ?_, fun z => f63_49 ?_⟩
      · rw [zc ()]
        refine ih (c + 1) s2 _ _ (by omega) (by omega) rfl hsB (Or.inr ⟨by omega, ?_, fun i k r1 r2 r3 r4 => ?_⟩)
        · rcases g with ⟨q, q2⟩ | ⟨q0, ⟨i, k, q1, q2, q3, q4, q5, q6⟩, q7⟩
          · exfalso
            subst q
            obtain ⟨r1, i, r2, r3, r4⟩ := (a9 _ _).mp (DD.start w t n 0 x0 400)
            have := g2 i r2 r3
            have := gsm_rng w t (f i) ((0 : Nat) : Int) n
            omega
          · exact ⟨i, k, by omega, q2, q3, q4, by rw [e26]; exact q5, by rw [e27]; exact q6⟩
        · rw [e26, e27]
          rcases g with ⟨q, q2⟩ | ⟨q0, ⟨i0, k0, q1, q2, q3, q4, q5, q6⟩, q7⟩
          · exfalso
            subst q
            have hk0 : k = 0 := by omega
            subst hk0
            have := g2 i r3 r4
            have := gsm_rng w t (f i) ((0 : Nat) : Int) n
            omega
          · by_cases e : k = c
            · subst e
              have := g2 i r3 r4
              omega
            · exact q7 i k (by omega) r2 r3 r4
      · rw [zc ()]
        refine ih (c + 1) _ _ _ (by omega) (by omega) rfl (fun c2 i q1 q2 q3 => ?_) (Or.inr ⟨by omega, ?_, fun i k r1 r2 r3 r4 => ?_⟩)
        · rw [zg, if_neg (fun q => (q3 q.1).2 q.2), zg, if_neg (fun q => (q3 q.1).1 q.2)]
          exact hsB c2 i q1 q2 q3
        · rw [zg, if_neg (by decide), zg, if_pos ⟨rfl, rfl⟩, zg, if_pos ⟨rfl, rfl⟩]
          rcases g1 with ⟨u1, u2⟩ | ⟨i3, u1, u2, u3⟩
          · exfalso
            rcases g with ⟨q, q2⟩ | ⟨q0, ⟨i0, k0, q1, q2, q3, q4, q5, q6⟩, q7⟩
            · omega
            · have := gsm_rng w t (f i0) ((k0 : Nat) : Int) n
              omega
          · exact ⟨i3, c, by omega, by omega, u1, u2, u3, rfl⟩
        · rw [zg, if_neg (by decide), zg, if_pos ⟨rfl, rfl⟩, zg, if_pos ⟨rfl, rfl⟩]
          by_cases e : k = c
          · subst e
            have := g2 i r3 r4
            omega
          · rcases g with ⟨q, q2⟩ | ⟨q0, _, q7⟩
            · omega
            · have := q7 i k (by omega) r2 r3 r4
              omega
  refine e63 (by omega) (f63_0 (l 402 0 _ _ _ rfl (Nat.zero_le _) rfl (fun c i q1 q2 q3 => ?_) (Or.inl ⟨rfl, ?_⟩)))
  · rw [zg, if_neg (fun q => (q3 q.1).2 q.2), zg, if_neg (fun q => (q3 q.1).1 q.2)]
  · rw [zg, if_neg (by decide), zg, if_pos ⟨rfl, rfl⟩]
