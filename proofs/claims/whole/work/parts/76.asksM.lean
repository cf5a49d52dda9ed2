variable {xs : Nat → Int} {L : Nat} {d : Nat} {s : Pl}
theorem l200 {w : Pl} {t n m x0 : Nat} {s3 s4 : Pl} {P : Int → Pl → Prop} (hd : 2 ≤ d) (hk : wOk w t n) (hm : Mst w t n s4) (hs : SolM w t n m x0 s4) (hkp : kept9 s3 s4) (h : ∀ (f : Nat → Bool) (s2 : Pl), (∀ p, p < n → (f p = true ↔ ∃ y k, DD w t n m x0 400 y k ∧ thV w y p = true)) → fRk s3 s2 → P ((btn (fun p => !f p) n : Nat) : Int) s2) : Fr xs L T0 106 d 200 35 [some (rf 73), some (it 0), some (it 0), some (it 0)] [] s4 (qi P) := by
  have hn := hk.1.2
  obtain ⟨N, g, cs, ⟨a1, a2⟩, a3, a4, a5, a6⟩ := hs
  have l : ∀ (j k : Nat) (s1 : Pl) (v3 : Int) (F : Nat → Bool), k + j = N → v3 = (k : Nat) → fKp n s4 s1 → (∀ p, p < n → (F p = true ↔ ∃ i, i < k ∧ thV w (g i) p = true)) → Fr xs L T0 106 d 200 35 [some (rf 73), some (it 0), some (it ((btn F n : Nat) : Int)), some (it v3)] [] s1 (qi P) := by
    intro j
    induction j with
    | zero =>
      intro k s1 v3 F hk9 h3 hf hF
      have e : k = N := by omega
      subst e
      refine f200_35 ⟨fun _ => i185k (by omega) hn hkp hf fun s2 hs2 => ?_, fun z => absurd ?_ z⟩
      · have e703 : s2 72 3 = (n : Nat) := by
          rw [hs2 72 3 (by decide) (by decide) (by decide) (by decide), ← hkp.2.2 72 3 (by decide) (by decide)]; exact hm.2.2.1.2
        rw [e703, all_bits n hn, btn_an hn]
        have := h F s2 (fun p hp => ?_) hs2
        · simpa using this
        · rw [hF p hp]
          constructor
          · rintro ⟨i, q1, q2⟩
            exact ⟨g i, cs i, (a6 _ _).mpr ⟨i, q1, rfl, rfl⟩, q2⟩
          · rintro ⟨y, c, q1, q2⟩
            obtain ⟨i, r1, r2, _⟩ := (a6 _ _).mp q1
            exact ⟨i, r1, by rw [r2]; exact q2⟩
      · rw [hf 72 37 (by decide) (by decide) (fun e => absurd e (by decide)) (by decide), a1]; omega
    | succ j ih =>
      intro k s1 v3 F hk9 h3 hf hF
      subst h3
      have zk : ∀ _ : Unit, zw ((k : Nat) + 1) = ((k + 1 : Nat) : Int) := fun _ => by rw [zw_id (by omega) (by omega)]; omega
      have e37 : s1 72 37 = (N : Nat) := by rw [hf 72 37 (by decide) (by decide) (fun e => absurd e (by decide)) (by decide)]; exact a1
      have e91 : s1 93 ((k : Nat) : Int) = (mcd (g k) n : Nat) := by rw [hf 93 _ (by decide) (by decide) (fun e => absurd e (by decide)) (fun e => absurd e (by decide))]; exact (a3 k (by omega)).1
      refine f200_35 ⟨fun z => absurd z (by omega), fun _ => ⟨by omega, ?_⟩⟩
      rw [e91]
      refine i192 (by omega) hn (hf.mst hm).2.2.1.2 fun s2 k1 k2 => ?_
      have hf2 := hf.trans k2.fKp
      refine i181 (by omega) hn (hf2.mst hm) k1 ?_
      rw [zk (), btn_or hn]
      refine ih (k + 1) s2 _ _ (by omega) rfl hf2 fun p hp => ?_
      simp only [Bool.or_eq_true]
      rw [hF p hp]
      constructor
      · rintro (⟨i, q1, q2⟩ | q)
        · exact ⟨i, by omega, q2⟩
        · exact ⟨k, by omega, q⟩
      · rintro ⟨i, q1, q2⟩
        by_cases e : i = k
        · subst e; exact Or.inr q2
        · exact Or.inl ⟨i, by omega, q2⟩
  have e0 : (0 : Int) = ((btn (fun _ => false) n : Nat) : Int) := by
    have := (btn_zero (f := fun _ => false) (n := n)).mpr (fun _ _ => rfl)
    rw [this]; rfl
  have := l N 0 s4 0 (fun _ => false) (by omega) rfl (fKp.refl n s4) (fun p hp => ⟨fun q => absurd q (by decide), fun ⟨i, q, _⟩ => absurd q (by omega)⟩)
  rw [← e0] at this
  exact this
theorem i166w {w : Pl} {t n p : Nat} {hr : Int} {P : Int → Pl → Prop} (hd : 3 ≤ d) (hk : wOk w t n) (hm : Mst w t n s) (hp : p < n) (h : ∀ s2 : Pl, kG s s2 → P (gainV w t p hr) s2) : Ev xs L T0 106 d 166 [rf 73, it (p : Nat), it hr] s (qi P) := by
  have ht := hk.2.1.1
  have hn := hk.1.2
  obtain ⟨a1, a2, a3, a4, a5, a6⟩ := hm.2.2.2.1 p hp
  have hb := (hk.2.2.1 p hp).2.2.1
  refine i166 ht hd (by omega) hm.2.2.1.1 hm.2.1.1 hm.2.1.2.1 hm.2.1.2.2 (by rw [a4]; omega) fun s2 hs2 => ?_
  rw [hm.1 _ (by omega) (stc22 t ht).1, hm.1 _ (by omega) (stc22 t ht).2, a2, a3, a4]
  exact h s2 hs2
theorem i201 {w : Pl} {t n y : Nat} {hr : Int} {P : Int → Pl → Prop} (hd : 4 ≤ d) (hk : wOk w t n) (hm : Mst w t n s) (hx : mx n y s) (h : ∀ s2 : Pl, kG s s2 → P (gsm w t y hr n) s2) : Ev xs L T0 106 d 201 [rf 73, it hr] s (qi P) := by
  have hn := hk.1.2
  have l : ∀ (j k : Nat) (s1 : Pl) (v2 v3 : Int), k + j = n → v3 = (k : Nat) → v2 = gsm w t y hr k → kG s s1 → Fr xs L T0 106 (d - 1) 201 4 [some (rf 73), some (it hr), some (it v2), some (it v3)] [] s1 (qi P) := by
    intro j
    induction j with
    | zero =>
      intro k s1 v2 v3 hk9 h3 h2 hs1
      have e : k = n := by omega
      subst e
      exact f201_4 ⟨fun _ => by rw [h2]; exact h s1 hs1, fun z => absurd (by rw [(hs1.mst hm).2.2.1.2]; omega) z⟩
    | succ j ih =>
      intro k s1 v2 v3 hk9 h3 h2 hs1
      subst h3
      have zk : ∀ _ : Unit, zw ((k : Nat) + 1) = ((k + 1 : Nat) : Int) := fun _ => by rw [zw_id (by omega) (by omega)]; omega
      have hm1 := hs1.mst hm
      have e703 : s1 72 3 = (n : Nat) := hm1.2.2.1.2
      refine f201_4 ⟨fun z => absurd z (by rw [e703]; omega), fun _ => ?_⟩
      rw [(hs1.mx hx).2 k (by omega), (hm1.2.2.2.1 k (by omega)).2.1]
      refine ⟨by omega, by omega, fun z => f201_36 ?_, fun z => i166w (by omega) hk hm1 (by omega) fun s2 hs2 => f201_36 ?_⟩
      · rw [zk ()]
        refine ih (k + 1) s1 _ _ (by omega) rfl ?_ hs1
        rw [h2]; simp only [gsm]; rw [if_neg z]; omega
      · have r1 := gsm_rng w t y hr k
        have r2 := gainV_rng w t k hr
        rw [zk ()]
        refine ih (k + 1) s2 _ _ (by omega) rfl ?_ (hs1.trans hs2)
        rw [h2, zw_id (by omega) (by omega)]
        simp only [gsm]
        rw [if_pos (Classical.not_not.mp z)]
  exact e201 (by omega) (f201_0 (l n 0 s _ _ (by omega) rfl rfl (kG.refl s)))
theorem l202 {w : Pl} {t n x0 hour : Nat} {what : Int} {s3 s4 : Pl} {P : Int → Pl → Prop} (hd : 4 ≤ d) (hk : wOk w t n) (hm : Mst w t n s4) (hs : SolM w t n 0 x0 s4) (hkp : kept9 s3 s4) (h : ∀ (a b : Int) (s2 : Pl), bstV w t n x0 hour a b → fRk s3 s2 → (what ≠ 0 → P b s2) ∧ (what = 0 → P a s2)) : Fr xs L T0 106 d 202 40 [some (rf 73), some (it (hour : Nat)), some (it what), some (it (-1)), some (it 0), some (it 0), none] [] s4 (qi P) := by
  have hn := hk.1.2
  obtain ⟨N, g, cs, ⟨a1, a2⟩, a3, a4, a5, a6⟩ := hs
  have l : ∀ (j k : Nat) (s1 : Pl) (v3 v4 v5 : Int) (w6 : Option AV), k + j = N → v5 = (k : Nat) → fKp n s4 s1 → ((v3 = -1 ∧ ∀ i, i < k → ¬ cs i ≤ hour) ∨ ((∃ i, i < k ∧ cs i ≤ hour ∧ v3 = gsm w t (g i) (cs i : Nat) n ∧ v4 = (cs i : Nat)) ∧ ∀ i, i < k → cs i ≤ hour → gsm w t (g i) (cs i : Nat) n < v3 ∨ gsm w t (g i) (cs i : Nat) n = v3 ∧ v4 ≤ (cs i : Nat))) → Fr xs L T0 106 d 202 40 [some (rf 73), some (it (hour : Nat)), some (it what), some (it v3), some (it v4), some (it v5), w6] [] s1 (qi P) := by
    intro j
    induction j with
    | zero =>
      intro k s1 v3 v4 v5 w6 hk9 h5 hf hv
      have e : k = N := by omega
      subst e
      refine f202_40 ⟨fun _ => i185k (by omega) hn hkp hf fun s2 hs2 => ?_, fun z => absurd ?_ z⟩
      · have hb : bstV w t n x0 hour v3 v4 := by
          rcases hv with ⟨q1, q2⟩ | ⟨⟨i, q1, q2, q3, q4⟩, q5⟩
          · exfalso
            obtain ⟨i, r1, r2, r3⟩ := (a6 _ _).mp (DD.start w t n 0 x0 400)
            exact q2 i r1 (by omega)
          · refine ⟨⟨g i, cs i, (a6 _ _).mpr ⟨i, q1, rfl, rfl⟩, q2, q3, q4⟩, fun y c hd9 hc => ?_⟩
            obtain ⟨i2, r1, r2, r3⟩ := (a6 _ _).mp hd9
            subst r2
            subst r3
            exact q5 i2 r1 hc
        exact ⟨fun z => (h v3 v4 s2 hb hs2).1 z, fun z => (h v3 v4 s2 hb hs2).2 (Classical.not_not.mp z)⟩
      · rw [hf 72 37 (by decide) (by decide) (fun e => absurd e (by decide)) (by decide), a1]; omega
    | succ j ih =>
      intro k s1 v3 v4 v5 w6 hk9 h5 hf hv
      subst h5
      have zk : ∀ _ : Unit, zw ((k : Nat) + 1) = ((k + 1 : Nat) : Int) := fun _ => by rw [zw_id (by omega) (by omega)]; omega
      have e37 : s1 72 37 = (N : Nat) := by rw [hf 72 37 (by decide) (by decide) (fun e => absurd e (by decide)) (by decide)]; exact a1
      have e91 : s1 93 ((k : Nat) : Int) = (mcd (g k) n : Nat) := by rw [hf 93 _ (by decide) (by decide) (fun e => absurd e (by decide)) (fun e => absurd e (by decide))]; exact (a3 k (by omega)).1
      have e92 : ∀ s2, fKp n s4 s2 → s2 94 ((k : Nat) : Int) = (cs k : Nat) := fun s2 h2 => by rw [h2 94 _ (by decide) (by decide) (fun e => absurd e (by decide)) (fun e => absurd e (by decide))]; exact (a3 k (by omega)).2.1
      refine f202_40 ⟨fun z => absurd z (by omega), fun _ => ?_⟩
      rw [e92 s1 hf, e91]
      refine ⟨by omega, fun z => ⟨by omega, i192 (by omega) hn (hf.mst hm).2.2.1.2 fun s2 k1 k2 => ?_⟩, fun z => f202_126 ?_⟩
      · have hf2 := hf.trans k2.fKp
        rw [e92 s2 hf2]
        refine ⟨by omega, i201 (by omega) hk (hf2.mst hm) k1 fun s5 hs5 => ?_⟩
        have hf5 := hf2.trans hs5.fKp
        rw [e92 s5 hf5]
        have hr := gsm_rng w t (g k) (cs k : Nat) n
        have keep : (gsm w t (g k) (cs k : Nat) n < v3 ∨ gsm w t (g k) (cs k : Nat) n = v3 ∧ v4 ≤ (cs k : Nat)) → ∀ w6 : Option AV, Fr xs L T0 106 d 202 126 [some (rf 73), some (it (hour : Nat)), some (it what), some (it v3), some (it v4), some (it (k : Nat)), w6] [] s5 (qi P) := fun q w6 => f202_126 (by
          rw [zk ()]
          refine ih (k + 1) s5 _ _ _ _ (by omega) rfl hf5 (Or.inr ?_)
          rcases hv with ⟨q1, q2⟩ | ⟨⟨i, q1, q2, q3, q4⟩, q5⟩
          · omega
          · refine ⟨⟨i, by omega, q2, q3, q4⟩, fun i2 r1 r2 => ?_⟩
            by_cases e : i2 = k
            · subst e; exact q
            · exact q5 i2 (by omega) r2)
        have take : (v3 < gsm w t (g k) (cs k : Nat) n ∨ v3 = gsm w t (g k) (cs k : Nat) n ∧ ((cs k : Nat) : Int) < v4) → ∀ (v6 : Int), v6 = gsm w t (g k) (cs k : Nat) n → Fr xs L T0 106 d 202 114 [some (rf 73), some (it (hour : Nat)), some (it what), some (it v3), some (it v4), some (it (k : Nat)), some (it v6)] [] s5 (qi P) := fun q v6 h6 => f202_114 ⟨by omega, f202_126 (by
          rw [zk (), e92 s5 hf5, h6]
          refine ih (k + 1) s5 _ _ _ _ (by omega) rfl hf5 (Or.inr ⟨⟨k, by omega, by omega, rfl, rfl⟩, fun i2 r1 r2 => ?_⟩)
          by_cases e : i2 = k
          · subst e; exact Or.inr ⟨rfl, Int.le_refl _⟩
          · rcases hv with ⟨q1, q2⟩ | ⟨⟨i, q1, q2, q3, q4⟩, q5⟩
            · exact absurd r2 (q2 i2 (by omega))
            · have := q5 i2 (by omega) r2
              omega)⟩
        refine ⟨fun q => keep (Or.inl q) _, fun q => ⟨fun q2 => take (Or.inl (by omega)) _ rfl, fun q2 => ⟨by omega, fun q3 => take (Or.inr ⟨by omega, by omega⟩) _ rfl, fun q3 => keep (Or.inr ⟨by omega, by omega⟩) _⟩⟩⟩
      · rw [zk ()]
        refine ih (k + 1) s1 _ _ _ _ (by omega) rfl hf ?_
        rcases hv with ⟨q1, q2⟩ | ⟨⟨i, q1, q2, q3, q4⟩, q5⟩
        · refine Or.inl ⟨q1, fun i hi => ?_⟩
          by_cases e : i = k
          · subst e; omega
          · exact q2 i (by omega)
        · refine Or.inr ⟨⟨i, by omega, q2, q3, q4⟩, fun i2 r1 r2 => ?_⟩
          by_cases e : i2 = k
          · subst e; omega
          · exact q5 i2 (by omega) r2
  exact l N 0 s4 _ _ _ _ (by omega) rfl (fKp.refl n s4) (Or.inl ⟨rfl, fun i hi => absurd hi (by omega)⟩)
