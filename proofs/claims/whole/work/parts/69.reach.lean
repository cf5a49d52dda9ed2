variable {xs : Nat → Int} {L : Nat} {d : Nat} {s : Pl}
theorem Eg.pat {w : Pl} {t n m x y e r : Nat} (hm : m < 3) (hr : 1 ≤ r) (h : m = 0 → ∀ u v, u < 4 → v < 4 → u ≠ v → rowV w t u v ≤ (r : Nat)) (he : Eg w t n m x y e) : e ≤ r := by
  rcases he with ⟨l, h1, h2, _, h4⟩ | ⟨p, q, _, _, h4⟩
  · unfold egw at h4
    by_cases e0 : m = 0
    · rw [if_pos e0] at h4
      have := h e0 (bt x) l (bt_lt x) h1 (fun q => h2 q.symm)
      omega
    · rw [if_neg e0] at h4
      split at h4 <;> omega
  · split at h4 <;> omega
theorem l54a {w : Pl} {t n m x0 Lm pat : Nat} {Q : Nat → Prop} {v3 : Int} {P : Int → Pl → Prop} (hd : 5 ≤ d) (hm : m < 3) (hk : wOk w t n) (s0 : Pl) (hw : sW w s0) (hl : Lrn w t n s0) (hx0 : okx n x0) (hL : Lm ≤ 400) (hQ : ∀ x, zand (awV w n x : Nat) v3 = v3 ↔ Q x) (hpat1 : 1 ≤ pat ∧ pat ≤ 99) (hpat : ∀ x y e, Eg w t n m x y e → e ≤ pat)
    (h1 : ∀ (k : Nat) (s1 : Pl), lst w t n m x0 Lm Q (k : Nat) → fRe s0 s1 → P (k : Nat) s1) (h2 : ∀ s1 : Pl, (∀ y k, DD w t n m x0 Lm y k → ¬ Q y) → SolC w t n m x0 Lm s1 → fRe s0 s1 → P (-1) s1) :
    ∀ (j c : Nat) (s : Pl) (f B : Nat → Nat) (last : Nat) (w8 : Option AV), c + j = Lm + 1 → HDc w t n m x0 Q s0 s f B c last → Fr xs L T0 106 d 54 41 [some (rf 65), some (it (x0 : Nat)), some (it (m : Nat)), some (it v3), some (it (Lm : Nat)), some (it (last : Nat)), some (it (pat : Nat)), some (it (c : Nat)), w8] [] s (qi P) := by
  have hn := hk.1.2
  have hR := Rch.rok (w := w) (t := t) (m := m) hn hx0
  have ending : ∀ (c : Nat) (s : Pl) (f B : Nat → Nat) (last : Nat), 0 < c → c ≤ Lm + 1 → HDc w t n m x0 Q s0 s f B c last → (Lm < c ∨ pat < c - last) → P (-1) s := by
    intro c s f B last hc hcl h he
    obtain ⟨a1, a2, a3, a4, a5, ⟨a6, a7⟩, a8⟩ := h
    have hinj := a1.2.2.2.1
    have hdn := fun y k => a2.done (Lm := Lm) (last := last) (pat := pat) hinj hc hcl a7 hpat he y k
    refine h2 s (fun y k hd => ?_) ⟨B c, c, f, B, a1.1, ⟨a4, hc, by omega⟩, fun i hi => ?_, ⟨a2.1, rfl, a2.2.1, fun j hj => a3 j hc hj⟩, hinj, fun i hi => ?_, hdn⟩ a8
    · obtain ⟨hk9, i, b1, b2, b3⟩ := (hdn y k).mp hd
      have := B_mono a2.2.1 (k + 1) c (by omega) (by omega)
      rw [← b3]
      exact a5 i (by omega)
    · rw [a1.2.1 i hi, if_pos hi]
    · obtain ⟨j, k, hp⟩ := a1.2.2.2.2 i hi
      exact pth_ok hx0 j _ k hp
  intro j
  induction j with
  | zero =>
    intro c s f B last w8 hc h
    have e : c = Lm + 1 := by omega
    exact f54_41 ⟨fun _ => ending c s f B last (by omega) (by omega) h (Or.inl (by omega)), fun z => absurd (by omega) z⟩
  | succ j ih =>
    intro c s f B last w8 hc h
    have h9 := h
    obtain ⟨a1, a2, a3, a4, a5, ⟨a6, a7⟩, a8⟩ := h
    have zl : ∀ _ : Unit, zw ((c : Nat) - (last : Nat)) = ((c : Nat) : Int) - (last : Nat) := fun _ => by rw [zw_id (by omega) (by omega)]
    refine f54_41 ⟨fun z => absurd z (by omega), fun _ => ⟨fun z => absurd z (by omega), fun _ => ?_⟩⟩
    rw [zl ()]
    refine ⟨fun z => ending c s f B last (by omega) (by omega) h9 (Or.inr (by omega)), fun _ => ⟨by omega, ?_⟩⟩
    -- the layer begins
    rw [a1.1.1]
    have b65 : ∀ j, j ≤ c → (zup s 67 (c : Nat) (B c : Nat)) 67 ((j : Nat) : Int) = (B j : Nat) := by
      intro j hj
      rw [zg]
      by_cases e : j = c
      · subst e; rw [if_pos ⟨rfl, rfl⟩]
      · rw [if_neg (fun q => e (by omega))]; exact a3 j (by omega) hj
    have aC : CS w n (Rch w t n m x0) (zup s 67 (c : Nat) (B c : Nat)) (B c) f (B c) := by
      obtain ⟨⟨b1, b2⟩, b3, b4, b5, b6⟩ := a1
      exact ⟨⟨by rw [zune _ _ _ (by decide)]; exact b1, b2⟩, fun i hi => by rw [zune _ _ _ (by decide)]; exact b3 i hi, fun y hy => by rw [zune _ _ _ (by decide)]; exact b4 y hy, b5, b6⟩
    have aF : fRe s0 (zup s 67 (c : Nat) (B c : Nat)) := fun c2 i b1 b2 b3 b4 b5 => by rw [zune _ _ _ b3]; exact a8 c2 i b1 b2 b3 b4 b5
    have nx : ∀ (s2 : Pl) (M : Nat) (g : Nat → Nat), CS w n (Rch w t n m x0) s2 M g (B c) → fSr (zup s 67 (c : Nat) (B c : Nat)) s2 → B c ≤ M → (∀ i, i < B c → g i = f i) → (∀ i, B c ≤ i → i < M → ∃ st, pth w t n m x0 st (g i) c) → (∀ z, nwS w t n m f B c z → ∃ i, i < M ∧ g i = z) → (c = 0 → 0 < M ∧ g 0 = x0) → Fr xs L T0 106 d 54 97 [some (rf 65), some (it (x0 : Nat)), some (it (m : Nat)), some (it v3), some (it (Lm : Nat)), some (it (last : Nat)), some (it (pat : Nat)), some (it (c : Nat)), w8] [] s2 (qi P) := by
      intro s2 M g g1 g2 g3 g4 g5 g6 g7
      have e65 : s2 67 ((c : Nat) : Int) = (B c : Nat) := by rw [g2 67 _ (by decide) (by decide) (fun e => absurd e (by decide)) (fun e => absurd e (by decide))]; exact b65 c (Nat.le_refl _)
      refine f54_97 (i246 (by omega) (by omega) e65 a1.1.2 ?_)
      refine l54b hd hm hk s0 hw hl hx0 hL hQ h1 c (by omega) (fun s3 f3 B3 last3 v8 h3 => ih (c + 1) s3 f3 B3 last3 _ (by omega) h3) (1440 - B c) (B c) M s2 g B last (by have := a1.1.2; omega) ⟨g1, a2.cong g4, ⟨g3, g5, fun i y b1 b2 => absurd b1 (by omega), fun j i y e b1 b2 b3 b4 b5 => ?_, g7⟩, fun j hj => ?_, ?_, ⟨Nat.le_refl _, g3, fun i hi => ?_⟩, ⟨a6, a7, fun q => absurd q (by omega)⟩, aF.trans g2.fRe⟩
      · have hb : B (j + 1) ≤ B c := B_mono a2.2.1 _ _ (by omega) (by omega)
        rw [g4 i (by omega)] at b4
        exact g6 y ⟨j, i, e, b2, b3, by omega, b5, b4⟩
      · rw [g2 67 _ (by decide) (by decide) (fun e => absurd e (by decide)) (fun e => absurd e (by decide))]
        exact b65 j hj
      · rw [g2 64 5 (by decide) (by decide) (by decide) (by decide), zune _ _ _ (by decide)]
        exact a4
      · rw [g4 i hi]; exact a5 i hi
    have nwp : ∀ z, nwS w t n m f B c z → ∃ st, pth w t n m x0 st z c := by
      rintro z ⟨j, i, e, b1, b2, b3, b4, b5⟩
      rw [← b4]
      exact pth_next (a2.2.2.1 j i (by omega) b1 b2) b5
    have nwr : ∀ z, nwS w t n m f B c z → Rch w t n m x0 z := fun z hz => by
      obtain ⟨st, h⟩ := nwp z hz
      exact ⟨st, c, h⟩
    have fin : ∀ (s2 : Pl) (M : Nat) (g : Nat → Nat), 0 < c → CS w n (Rch w t n m x0) s2 M g (B c) → Gro (nwS w t n m f B c) f (B c) g M → (∀ z, nwS w t n m f B c z → ∃ i, i < M ∧ g i = z) → fSr (zup s 67 (c : Nat) (B c : Nat)) s2 → Fr xs L T0 106 d 54 97 [some (rf 65), some (it (x0 : Nat)), some (it (m : Nat)), some (it v3), some (it (Lm : Nat)), some (it (last : Nat)), some (it (pat : Nat)), some (it (c : Nat)), w8] [] s2 (qi P) := fun s2 M g hc0 g1 g2 g3 g4 =>
      nx s2 M g g1 g4 g2.1 g2.2.1 (fun i b1 b2 => nwp _ (g2.2.2 i b1 b2)) g3 (fun e => absurd hc0 (by omega))
    refine ⟨fun hc0 => ?_, fun hc0 => ?_⟩
    · have hc1 : 0 < c := by omega
      by_cases hm1 : m = 1
      · subst hm1
        exact i58a (by omega) hk (aF.sW hw) (aF.Ln hl) hR aC (Nat.le_refl _) ⟨hc1, by omega⟩ b65 a2.2.1 rfl nwr fun s2 M g g1 g2 g3 g4 => fin s2 M g hc1 g1 g2 g3 g4
      · exact i58b (by omega) (by omega) hk (aF.sW hw) (aF.Ln hl) hR aC (Nat.le_refl _) ⟨hc1, by omega⟩ b65 a2.2.1 rfl nwr fun s2 M g g1 g2 g3 g4 => fin s2 M g hc1 g1 g2 g3 g4
    · have hc0 : c = 0 := by omega
      have eB : B c = 0 := by rw [hc0]; exact a2.1
      refine i55 (by omega) hR aC (Nat.le_refl _) ⟨0, 0, rfl, rfl⟩ fun s2 M g g1 g2 g3 g4 => ?_
      refine nx s2 M g g1 g4.fSr g2.1 g2.2.1 (fun i b1 b2 => ⟨0, ?_⟩) (fun z hz => ?_) (fun _ => ?_)
      · exact ⟨g2.2.2 i b1 b2, hc0⟩
      · obtain ⟨j, i, e, q1, q2, q3, q4, q5⟩ := hz
        omega
      · obtain ⟨i, q1, q2⟩ := g3
        exact ⟨by omega, g2.2.2 0 (by omega) (by omega)⟩
theorem i54 {w : Pl} {t n m x0 Lm : Nat} {Q : Nat → Prop} {v3 : Int} {P : Int → Pl → Prop} (hd : 6 ≤ d) (hm : m < 3) (hk : wOk w t n) (hw : sW w s) (hl : Lrn w t n s) (hx0 : okx n x0) (hL : Lm ≤ 400) (hQ : ∀ x, zand (awV w n x : Nat) v3 = v3 ↔ Q x)
    (h1 : ∀ (k : Nat) (s1 : Pl), lst w t n m x0 Lm Q (k : Nat) → fRe s s1 → P (k : Nat) s1) (h2 : ∀ s1 : Pl, (∀ y k, DD w t n m x0 Lm y k → ¬ Q y) → SolC w t n m x0 Lm s1 → fRe s s1 → P (-1) s1) :
    Ev xs L T0 106 d 54 [rf 65, it (x0 : Nat), it (m : Nat), it v3, it (Lm : Nat)] s (qi P) := by
  have hn := hk.1.2
  refine e54 (by omega) (f54_0 (i238 (ca := 65) (Na := 1954) (by omega) (by decide +kernel) (by decide) (by decide) fun s1 k1 k2 => ?_))
  have aF : fRe s (zup (zup s1 64 4 0) 64 5 0) := fun c i b1 b2 b3 b4 b5 => by
    rw [zg, if_neg (fun q => (b4 q.1).2 q.2), zg, if_neg (fun q => (b4 q.1).1 q.2), k2 c b1]
  have hd0 : ∀ f B : Nat → Nat, B 0 = 0 → HDc w t n m x0 Q s (zup (zup s1 64 4 0) 64 5 0) f B 0 0 := by
    intro f B hB
    refine ⟨⟨⟨by rw [zg, if_neg (by decide), zg, if_pos ⟨rfl, rfl⟩, hB]; rfl, by rw [hB]; decide⟩, fun i hi => absurd hi (by rw [hB]; omega), fun y hy => ?_, fun i j h1 h2 => absurd h2 (by rw [hB]; omega), fun i hi => absurd hi (by rw [hB]; omega)⟩, ⟨hB, fun j hj => absurd hj (by omega), fun j i hj => absurd hj (by omega), fun j i y e hj => absurd hj (by omega), fun h => absurd h (by omega)⟩, fun j h => absurd h (by omega), by rw [zg, if_pos ⟨rfl, rfl⟩]; rfl, fun i hi => absurd hi (by rw [hB]; omega), ⟨Nat.le_refl _, fun j _ h => absurd h (by omega)⟩, aF⟩
    rw [zune _ _ _ (by decide), zune _ _ _ (by decide), k1 _ (by omega) (by omega), sb_zero]
    exact ⟨fun q => absurd q (by decide), fun ⟨i, hi, _⟩ => absurd hi (by rw [hB]; omega)⟩
  have go : ∀ pat : Nat, 1 ≤ pat → pat ≤ 99 → (m = 0 → ∀ u v, u < 4 → v < 4 → u ≠ v → rowV w t u v ≤ (pat : Nat)) → Fr xs L T0 106 (d - 1) 54 36 [some (rf 65), some (it (x0 : Nat)), some (it (m : Nat)), some (it v3), some (it (Lm : Nat)), some (it 0), none, none, none] [it (pat : Nat)] (zup (zup s1 64 4 0) 64 5 0) (qi P) := by
    intro pat p1 p2 p3
    refine f54_36 ?_
    exact l54a (by omega) hm hk s hw hl hx0 hL hQ ⟨p1, p2⟩ (fun x y e he => he.pat hm p1 p3) h1 h2 (Lm + 1) 0 _ (fun _ => 0) (fun _ => 0) 0 _ (by omega) (hd0 _ _ rfl)
  refine ⟨fun z => go 1 (by decide) (by decide) fun e => absurd (by rw [e]; rfl) z, fun z => ?_⟩
  refine i50 (w := w) (t := t) (n := n) (by omega) (aF.Ln hl) fun r r1 r2 r3 => go r r1 r2 fun _ => r3
