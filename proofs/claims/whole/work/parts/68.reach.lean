def fRe (s s1 : Pl) : Prop := ∀ c i, c ≠ 65 → c ≠ 66 → c ≠ 67 → (c = 64 → i ≠ 4 ∧ i ≠ 5) → (c = 57 → i < 11 ∨ 14 < i) → s1 c i = s c i
theorem fRe.trans {s s1 s2 : Pl} (h : fRe s s1) (h2 : fRe s1 s2) : fRe s s2 := fun c i a b e g k => by rw [h2 c i a b e g k, h c i a b e g k]
theorem fSr.fRe {s s1 : Pl} (h : fSr s s1) : fRe s s1 := fun c i a b _ e g => h c i a b (fun q => (e q).1) g
theorem fRe.cell {s s1 : Pl} (h : fRe s s1) {c : Nat} (h1 : c ≠ 65) (h2 : c ≠ 66) (h3 : c ≠ 64) (h4 : c ≠ 57) (h5 : c ≠ 67) : s1 c = s c := funext fun i => h c i h1 h2 h5 (fun e => absurd e h3) (fun e => absurd e h4)
theorem fRe.sW {w s s1 : Pl} (h : fRe s s1) (hw : sW w s) : sW w s1 := fun c hc => by
  have := stc_out hc
  rw [h.cell (by omega) (by omega) (by omega) (by omega) (by omega)]
  exact hw c hc
theorem fRe.Ln {w s s1 : Pl} {t n : Nat} (h : fRe s s1) (v : Lrn w t n s) : Lrn w t n s1 := by
  unfold Lrn at *
  rw [h.cell (c := 59) (by decide) (by decide) (by decide) (by decide) (by decide), h.cell (c := 61) (by decide) (by decide) (by decide) (by decide) (by decide), h 57 1 (by decide) (by decide) (by decide) (by decide) (by decide), h 57 6 (by decide) (by decide) (by decide) (by decide) (by decide), h 57 7 (by decide) (by decide) (by decide) (by decide) (by decide), h 57 8 (by decide) (by decide) (by decide) (by decide) (by decide), h 57 9 (by decide) (by decide) (by decide) (by decide) (by decide), h 57 10 (by decide) (by decide) (by decide) (by decide) (by decide)]
  exact v
def Rch (w : Pl) (t n m x0 : Nat) (y : Nat) : Prop := ∃ j k, pth w t n m x0 j y k
theorem Rch.rok {w : Pl} {t n m x0 : Nat} (hn : n ≤ 6) (h0 : okx n x0) : Rok (Rch w t n m x0) :=
  ⟨fun y ⟨j, k, h⟩ => (pth_ok h0 j y k h).1, fun N f hi hf => pth_bound hn h0 hi hf⟩
theorem pth_next {w : Pl} {t n m x0 x y a e : Nat} (h : ∃ st, pth w t n m x0 st x a) (he : Eg w t n m x y e) : ∃ st, pth w t n m x0 st y (a + e) := by
  obtain ⟨st, h⟩ := h
  exact ⟨st + 1, x, a, e, h, he, rfl⟩
/-- what the head of the loop over the costs has -/
def HDc (w : Pl) (t n m x0 : Nat) (Q : Nat → Prop) (s0 s : Pl) (f B : Nat → Nat) (c last : Nat) : Prop :=
  CS w n (Rch w t n m x0) s (B c) f (B c) ∧ IN w t n m x0 f B c ∧ (∀ j, 0 < c → j ≤ c → s 67 ((j : Nat) : Int) = (B j : Nat)) ∧ s 64 5 = (c : Nat) ∧ (∀ i, i < B c → ¬ Q (f i)) ∧ (last ≤ c ∧ ∀ j, last < j → j < c → B j = B (j + 1)) ∧ fRe s0 s
/-- what the loop over a layer has -/
def LPc (w : Pl) (t n m x0 : Nat) (Q : Nat → Prop) (s0 s : Pl) (f B : Nat → Nat) (c last N k : Nat) : Prop :=
  CS w n (Rch w t n m x0) s N f k ∧ IN w t n m x0 f B c ∧ LYn w t n m x0 f B c N k ∧ (∀ j, j ≤ c → s 67 ((j : Nat) : Int) = (B j : Nat)) ∧ s 64 5 = (c : Nat) ∧ (B c ≤ k ∧ k ≤ N ∧ ∀ i, i < k → ¬ Q (f i)) ∧ (last ≤ c ∧ (∀ j, last < j → j < c → B j = B (j + 1)) ∧ (B c < k → last = c)) ∧ fRe s0 s
variable {xs : Nat → Int} {L : Nat} {d : Nat} {s : Pl}
theorem l54b {w : Pl} {t n m x0 Lm pat : Nat} {Q : Nat → Prop} {v3 : Int} {P : Int → Pl → Prop} (hd : 5 ≤ d) (hm : m < 3) (hk : wOk w t n) (s0 : Pl) (hw : sW w s0) (hl : Lrn w t n s0) (hx0 : okx n x0) (hL : Lm ≤ 400) (hQ : ∀ x, zand (awV w n x : Nat) v3 = v3 ↔ Q x)
    (h1 : ∀ (k : Nat) (s1 : Pl), lst w t n m x0 Lm Q (k : Nat) → fRe s0 s1 → P (k : Nat) s1) (c : Nat) (hc : c ≤ Lm)
    (out : ∀ (s1 : Pl) (f B : Nat → Nat) (last : Nat) (v8 : Int), HDc w t n m x0 Q s0 s1 f B (c + 1) last → Fr xs L T0 106 d 54 41 [some (rf 65), some (it (x0 : Nat)), some (it (m : Nat)), some (it v3), some (it (Lm : Nat)), some (it (last : Nat)), some (it (pat : Nat)), some (it ((c + 1 : Nat) : Int)), some (it v8)] [] s1 (qi P)) :
    ∀ (j k N : Nat) (s : Pl) (f B : Nat → Nat) (last : Nat), k + j = 1440 → LPc w t n m x0 Q s0 s f B c last N k → Fr xs L T0 106 d 54 105 [some (rf 65), some (it (x0 : Nat)), some (it (m : Nat)), some (it v3), some (it (Lm : Nat)), some (it (last : Nat)), some (it (pat : Nat)), some (it (c : Nat)), some (it (k : Nat))] [] s (qi P) := by
  have hn := hk.1.2
  have hR := Rch.rok (w := w) (t := t) (m := m) hn hx0
  have zc : ∀ _ : Unit, zw ((c : Nat) + 1) = ((c + 1 : Nat) : Int) := fun _ => by rw [zw_id (by omega) (by omega)]; omega
  intro j
  have ending : ∀ (k N : Nat) (s : Pl) (f B : Nat → Nat) (last : Nat), LPc w t n m x0 Q s0 s f B c last N k → k = N → Fr xs L T0 106 d 54 214 [some (rf 65), some (it (x0 : Nat)), some (it (m : Nat)), some (it v3), some (it (Lm : Nat)), some (it (last : Nat)), some (it (pat : Nat)), some (it (c : Nat)), some (it (k : Nat))] [] s (qi P) := by
    intro k N s f B last h hkN
    subst hkN
    obtain ⟨a1, a2, a3, a4, a5, ⟨a6, a7, a8⟩, ⟨a9, a10, a11⟩, a12⟩ := h
    have e5 : (zup s 64 5 (zw ((c : Nat) + 1))) 64 5 = ((c + 1 : Nat) : Int) := by rw [zg, if_pos ⟨rfl, rfl⟩, zc ()]
    have e4 : (zup s 64 5 (zw ((c : Nat) + 1))) 64 4 = (k : Nat) := by rw [zg, if_neg (by decide)]; exact a1.1.1
    refine f54_214 ?_
    rw [e5, e4, zc ()]
    refine ⟨by omega, out _ f (ext9 B (c + 1) k) last _ ?_⟩
    have eB : ext9 B (c + 1) k (c + 1) = k := ext9_at _ _ _
    refine ⟨?_, a2.next a3, fun j _ hj => ?_, ?_, ?_, ⟨by omega, fun j h1 h2 => ?_⟩, ?_⟩
    · rw [eB]
      obtain ⟨⟨b1, b2⟩, b3, b4, b5, b6⟩ := a1
      refine ⟨⟨by rw [zune _ _ _ (by decide), zg, if_neg (by decide)]; exact b1, b2⟩, fun i hi => ?_, fun y hy => ?_, b5, b6⟩
      · rw [zune _ _ _ (by decide), zune _ _ _ (by decide)]; exact b3 i hi
      · rw [zune _ _ _ (by decide), zune _ _ _ (by decide)]; exact b4 y hy
    · rw [zg]
      by_cases e : j = c + 1
      · rw [if_pos ⟨rfl, by omega⟩, e, eB]
      · rw [if_neg (fun q => e (by omega)), zune _ _ _ (by decide), ext9_ne e]
        exact a4 j (by omega)
    · rw [zune _ _ _ (by decide), zg, if_pos ⟨rfl, rfl⟩]
    · rw [eB]; exact a8
    · by_cases e : j = c
      · subst e
        rw [ext9_ne (by omega), eB]
        have : ¬ B j < k := fun q => by have := a11 q; omega
        omega
      · rw [ext9_ne (by omega), ext9_ne (by omega)]
        exact a10 j h1 (by omega)
    · intro c2 i b1 b2 b3 b4 b5
      rw [zune _ _ _ b3, zg, if_neg (fun q => (b4 q.1).2 q.2)]
      exact a12 c2 i b1 b2 b3 b4 b5
  induction j with
  | zero =>
    intro k N s f B last hk9 h
    have hN := h.1.1.2
    have e4 := h.1.1.1
    have hkN := h.2.2.2.2.2.1.2.1
    refine f54_105 ⟨fun _ => ending k N s f B last h (by omega), fun _ => ⟨fun _ => ending k N s f B last h (by omega), fun z => absurd (by omega) z⟩⟩
  | succ j ih =>
    intro k N s f B last hk9 h
    have hN := h.1.1.2
    have e4 := h.1.1.1
    have hkN := h.2.2.2.2.2.1.2.1
    by_cases hend : k = N
    · exact f54_105 ⟨fun _ => ending k N s f B last h hend, fun z => absurd (by omega) z⟩
    obtain ⟨a1, a2, a3, a4, a5, ⟨a6, a7, a8⟩, ⟨a9, a10, a11⟩, a12⟩ := h
    have hlt : k < N := by omega
    have e64 : s 66 (k : Nat) = (f k : Nat) := by rw [a1.2.1 k hlt, if_neg (by omega), Nat.add_zero]
    have hRk := a1.2.2.2.2 k hlt
    have hfk := hR.1 _ hRk
    have hpk : ∃ st, pth w t n m x0 st (f k) c := a3.2.1 k a6 hlt
    refine f54_105 ⟨fun z => absurd z (by omega), fun _ => ⟨fun z => absurd z (by omega), fun _ => ⟨by omega, ?_⟩⟩⟩
    rw [e64]
    refine i42 (by omega) hk.1.1 hn hfk (a12.sW hw) fun s1 k1 k2 => ?_
    have hf1 : fRe s0 s1 := a12.trans k2.fSr.fRe
    have ea : s1 57 14 = (awV w n (f k) : Nat) := k1.2.2.2
    have e641 : s1 66 (k : Nat) = (f k : Nat) := by rw [k2 66 _ (fun e => absurd e (by decide))]; exact e64
    rw [ea, hQ, e641]
    have a1' := k2.Cs a1
    have nx : ∀ (s2 : Pl) (M : Nat) (g : Nat → Nat), CS w n (Rch w t n m x0) s2 M g k → Gro (fun z => z = f k ∨ Eg w t n m (f k) z 0) f N g M → (∀ y, Eg w t n m (f k) y 0 → ∃ i, i < M ∧ g i = y) → fAd s1 s2 → ¬ Q (f k) → Fr xs L T0 106 d 54 184 [some (rf 65), some (it (x0 : Nat)), some (it (m : Nat)), some (it v3), some (it (Lm : Nat)), some (it (last : Nat)), some (it (pat : Nat)), some (it (c : Nat)), some (it (k : Nat))] [] s2 (qi P) := by
      intro s2 M g g1 g2 g3 g4 hnQ
      have gk : g k = f k := g2.2.1 k hlt
      have gM := g2.1
      have ea2 : s2 57 14 = (awV w n (f k) : Nat) := by rw [g4 57 14 (by decide) (by decide) (by decide)]; exact ea
      have e642 : s2 66 (k : Nat) = (f k : Nat) := by rw [g1.2.1 k (by omega), if_neg (by omega), Nat.add_zero, gk]
      have haw : awV w n (f k) < 64 := btn_lt64 _ hn
      have zk : ∀ _ : Unit, zw ((k : Nat) + 1) = ((k + 1 : Nat) : Int) := fun _ => by rw [zw_id (by omega) (by omega)]; omega
      refine f54_184 ⟨by omega, by omega, ?_⟩
      rw [ea2, e642, or16 (by omega) haw, zk ()]
      refine ih (k + 1) M _ g B c (by omega) ⟨?_, a2.cong fun i hi => g2.2.1 i (by omega), ⟨by have := a3.1; omega, fun i b1 b2 => ?_, fun i y b1 b2 b3 => ?_, fun j i y e b1 b2 b3 b4 b5 => ?_, fun hc0 => ?_⟩, fun j hj => ?_, ?_, ⟨by omega, by omega, fun i hi => ?_⟩, ⟨Nat.le_refl _, fun j h1 h2 => absurd h1 (by omega), fun _ => rfl⟩, ?_⟩
      · obtain ⟨⟨b1, b2⟩, b3, b4, b5, b6⟩ := g1
        refine ⟨⟨by rw [zune _ _ _ (by decide)]; exact b1, b2⟩, fun i hi => ?_, fun y hy => ?_, b5, b6⟩
        · rw [zg]
          by_cases e : i = k
          · subst e
            rw [if_pos ⟨rfl, rfl⟩, if_pos (by omega), gk]
          · rw [if_neg (fun q => e (by omega)), b3 i hi]
            by_cases e2 : i < k
            · rw [if_pos e2, if_pos (by omega)]
            · rw [if_neg e2, if_neg (by omega)]
        · rw [zune _ _ _ (by decide)]; exact b4 y hy
      · by_cases e : i < N
        · rw [g2.2.1 i e]; exact a3.2.1 i b1 e
        · rcases g2.2.2 i (by omega) b2 with q | q
          · rw [q]; exact hpk
          · exact pth_next hpk q
      · by_cases e : i = k
        · subst e; rw [gk] at b3; exact g3 y b3
        · rw [g2.2.1 i (by omega)] at b3
          exact g2.keep (a3.2.2.1 i y b1 (by omega) b3)
      · have hb : B (j + 1) ≤ B c := B_mono a2.2.1 _ _ (by omega) (by omega)
        rw [g2.2.1 i (by have := a3.1; omega)] at b4
        exact g2.keep (a3.2.2.2.1 j i y e b1 b2 b3 b4 b5)
      · obtain ⟨q1, q2⟩ := a3.2.2.2.2 hc0
        exact ⟨by omega, by rw [g2.2.1 0 q1]; exact q2⟩
      · rw [zune _ _ _ (by decide), g4 67 _ (by decide) (by decide) (fun e => absurd e (by decide)), k2 67 _ (fun e => absurd e (by decide))]
        exact a4 j hj
      · rw [zune _ _ _ (by decide), g4 64 5 (by decide) (by decide) (by decide), k2 64 5 (by decide)]
        exact a5
      · by_cases e : i = k
        · subst e; rw [gk]; exact hnQ
        · rw [g2.2.1 i (by omega)]; exact a8 i (by omega)
      · intro c2 i b1 b2 b3 b4 b5
        rw [zune _ _ _ b2]
        exact (hf1.trans g4.fSr.fRe) c2 i b1 b2 b3 b4 b5
    have zeroE : ∀ y, Eg w t n m (f k) y 0 ↔ (m = 1 ∧ ∃ l, l < 4 ∧ l ≠ bt (f k) ∧ y = rwd (f k) l) ∨ (m ≠ 1 ∧ ∃ p q, swp w t n (f k) p q ∧ y = swd (f k) p q) := by
      intro y
      constructor
      · rintro (⟨l, q1, q2, q3, q4⟩ | ⟨p, q, q1, q2, q3⟩)
        · have hr := rowV_rng w t (bt (f k)) l
          have : m = 1 := by
            have c3 : m = 0 ∨ m = 1 ∨ m = 2 := by omega
            rcases c3 with rfl | rfl | rfl
            · simp only [egw, if_pos] at q4; omega
            · rfl
            · simp [egw] at q4
          exact Or.inl ⟨this, l, q1, q2, q3⟩
        · refine Or.inr ⟨fun e => ?_, p, q, q1, q2⟩
          rw [if_pos e] at q3
          omega
      · rintro (⟨rfl, l, q1, q2, q3⟩ | ⟨h1, p, q, q1, q2⟩)
        · exact Or.inl ⟨l, q1, q2, q3, by simp [egw]⟩
        · exact Or.inr ⟨p, q, q1, q2, by rw [if_neg h1]⟩
    have rOf : ∀ y, Eg w t n m (f k) y 0 → Rch w t n m x0 y := fun y hy => by
      obtain ⟨st, h⟩ := pth_next hpk hy
      exact ⟨st, _, h⟩
    refine ⟨fun hnQ => ⟨fun hm1 => ⟨by omega, ?_⟩, fun hm1 => ⟨by omega, ?_⟩⟩, fun hq => ?_⟩
    · have hm1 : m ≠ 1 := by omega
      refine i57 (by omega) hk (hf1.sW hw) (hf1.Ln hl) hR a1' (by omega) hfk k1 (fun p q hs => rOf _ ((zeroE _).mpr (Or.inr ⟨hm1, p, q, hs, rfl⟩))) fun s2 M g g1 g2 g3 g4 => ?_
      refine nx s2 M g g1 (g2.mono fun z hz => ?_) (fun y hy => ?_) g4 hnQ
      · obtain ⟨p, q, q1, q2⟩ := hz
        exact Or.inr ((zeroE _).mpr (Or.inr ⟨hm1, p, q, q1, q2⟩))
      · rcases (zeroE y).mp hy with ⟨q1, _⟩ | ⟨_, p, q, q1, rfl⟩
        · exact absurd q1 hm1
        · exact g3 p q q1
    · have hm1 : m = 1 := by omega
      refine i56 (by omega) hR a1' (by omega) hfk k1.1 (fun l hl4 => ?_) fun s2 M g g1 g2 g3 g4 => ?_
      · by_cases e : l = bt (f k)
        · rw [e, rwd_self hfk]; exact hRk
        · exact rOf _ ((zeroE _).mpr (Or.inl ⟨hm1, l, hl4, e, rfl⟩))
      · refine nx s2 M g g1 (g2.mono fun z hz => ?_) (fun y hy => ?_) g4 hnQ
        · obtain ⟨l, q1, q2⟩ := hz
          by_cases e : l = bt (f k)
          · rw [e, rwd_self hfk] at q2; exact Or.inl q2
          · exact Or.inr ((zeroE _).mpr (Or.inl ⟨hm1, l, q1, e, q2⟩))
        · rcases (zeroE y).mp hy with ⟨_, l, q1, q2, rfl⟩ | ⟨q1, _⟩
          · exact g3 l q1
          · exact absurd hm1 q1
    · have hq := Classical.not_not.mp hq
      have hinjB : inj9 f (B c) := fun i j hi hj => a1.2.2.2.1 i j hi (by have := a3.1; omega)
      refine h1 c s1 (Or.inr ⟨c, rfl, ⟨f k, DD.ofpth a2 hinjB hpk (fun i hi e => a1.2.2.2.1 i k (by omega) hlt e) hc, hq⟩, fun y j hd9 hq9 => ?_⟩) hf1
      refine Nat.le_of_not_lt fun hj => ?_
      obtain ⟨hj2, i, b1, b2, b3⟩ := (a2.sol hinjB (by omega) y j).mpr (hd9.lim (by omega))
      have := B_mono a2.2.1 (j + 1) c (by omega) (by omega)
      exact a8 i (by omega) (by rw [b3]; exact hq9)
