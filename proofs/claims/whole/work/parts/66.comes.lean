/-! the class's search: what is new at a cost -/
def fSr (s s1 : Pl) : Prop := ∀ c i, c ≠ 65 → c ≠ 66 → (c = 64 → i ≠ 4) → (c = 57 → i < 11 ∨ 14 < i) → s1 c i = s c i
theorem fAd.fSr {s s1 : Pl} (h : fAd s s1) : fSr s s1 := fun c i a b e _ => h c i a b e
theorem fLk.fSr {s s1 : Pl} (h : fLk s s1) : fSr s s1 := fun c i _ _ _ e => h c i e
theorem fSr.refl (s : Pl) : fSr s s := fun _ _ _ _ _ _ => rfl
theorem fSr.trans {s s1 s2 : Pl} (h : fSr s s1) (h2 : fSr s1 s2) : fSr s s2 := fun c i a b e g => by rw [h2 c i a b e g, h c i a b e g]
theorem fSr.cell {s s1 : Pl} (h : fSr s s1) {c : Nat} (h1 : c ≠ 65) (h2 : c ≠ 66) (h3 : c ≠ 64) (h4 : c ≠ 57) : s1 c = s c := funext fun i => h c i h1 h2 (fun e => absurd e h3) (fun e => absurd e h4)
theorem fSr.sW {w s s1 : Pl} (h : fSr s s1) (hw : sW w s) : sW w s1 := fun c hc => by
  have := stc_out hc
  rw [h.cell (by omega) (by omega) (by omega) (by omega)]
  exact hw c hc
theorem fSr.Ln {w s s1 : Pl} {t n : Nat} (h : fSr s s1) (v : Lrn w t n s) : Lrn w t n s1 := by
  unfold Lrn at *
  rw [h.cell (c := 59) (by decide) (by decide) (by decide) (by decide), h.cell (c := 61) (by decide) (by decide) (by decide) (by decide), h 57 1 (by decide) (by decide) (by decide) (by decide), h 57 6 (by decide) (by decide) (by decide) (by decide), h 57 7 (by decide) (by decide) (by decide) (by decide), h 57 8 (by decide) (by decide) (by decide) (by decide), h 57 9 (by decide) (by decide) (by decide) (by decide), h 57 10 (by decide) (by decide) (by decide) (by decide)]
  exact v
theorem fLk.Cs {w s s1 : Pl} {n N dn : Nat} {R : Nat → Prop} {f : Nat → Nat} (h : fLk s s1) (v : CS w n R s N f dn) : CS w n R s1 N f dn := by
  unfold CS at *
  rw [h 64 4 (by decide), show s1 66 = s 66 from funext fun i => h 66 i (fun e => absurd e (by decide)), show s1 65 = s 65 from funext fun i => h 65 i (fun e => absurd e (by decide))]
  exact v
theorem CS.at {w s : Pl} {n N dn i : Nat} {R : Nat → Prop} {f : Nat → Nat} (hn : n ≤ 6) (hR : Rok R) (v : CS w n R s N f dn) (hi : i < N) : zand (s 66 (i : Nat)) 65535 = (f i : Nat) ∧ f i < 62500 ∧ R (f i) := by
  have h1 := v.2.1 i hi
  have h2 := v.2.2.2.2 i hi
  have h3 := hR.1 _ h2
  refine ⟨?_, h3, h2⟩
  have h4 : awV w n (f i) < 64 := btn_lt64 _ hn
  rw [h1, zand65535 (by split <;> omega)]
  congr 1
  split <;> omega
variable {xs : Nat → Int} {L : Nat} {d : Nat} {s : Pl}
theorem i59 {w : Pl} {n : Nat} {R : Nat → Prop} {N dn u v c b0 b1 : Nat} {f : Nat → Nat} {P : Pl → Prop} (hd : 3 ≤ d) (hn : n ≤ 6) (hR : Rok R) (hc : CS w n R s N f dn) (hdn : dn ≤ N) (hu : u < 4) (hv : v < 4) (hc4 : c ≤ 400) (h0 : s 67 (c : Nat) = (b0 : Nat)) (h1 : s 67 ((c + 1 : Nat) : Int) = (b1 : Nat)) (hb1 : b1 ≤ N) (hb01 : b0 ≤ b1) (hy : ∀ i, b0 ≤ i → i < b1 → bt (f i) = u → R (rwd (f i) v)) (h : ∀ (s1 : Pl) (M : Nat) (g : Nat → Nat), CS w n R s1 M g dn → Gro (fun z => ∃ i, b0 ≤ i ∧ i < b1 ∧ bt (f i) = u ∧ z = rwd (f i) v) f N g M → (∀ i, b0 ≤ i → i < b1 → bt (f i) = u → ∃ i2, i2 < M ∧ g i2 = rwd (f i) v) → fAd s s1 → P s1) : Ev xs L T0 106 d 59 [rf 65, it (u : Nat), it (v : Nat), it (c : Nat)] s (qv P) := by
  have z1 : ∀ _ : Unit, zw ((c : Nat) + 1) = ((c + 1 : Nat) : Int) := fun _ => by rw [zw_id (by omega) (by omega)]; omega
  have l : ∀ (j k : Nat) (s1 : Pl) (M : Nat) (g : Nat → Nat) (v4 : Int) (w5 : Option AV), k + j = b1 → b0 ≤ k → v4 = (k : Nat) → CS w n R s1 M g dn → Gro (fun z => ∃ i, b0 ≤ i ∧ i < b1 ∧ bt (f i) = u ∧ z = rwd (f i) v) f N g M → (∀ i, b0 ≤ i → i < k → bt (f i) = u → ∃ i2, i2 < M ∧ g i2 = rwd (f i) v) → fAd s s1 → Fr xs L T0 106 (d - 1) 59 16 [some (rf 65), some (it (u : Nat)), some (it (v : Nat)), some (it (c : Nat)), some (it (b1 : Nat)), some (it v4), w5] [] s1 (qv P) := by
    intro j
    induction j with
    | zero =>
      intro k s1 M g v4 w5 hk hk0 h2 h3 h4 h5 h6
      exact f59_16 ⟨fun _ => h s1 M g h3 h4 (fun i hi hi2 => h5 i hi (by omega)) h6, fun z => absurd (by omega) z⟩
    | succ j ih =>
      intro k s1 M g v4 w5 hk hk0 h2 h3 h4 h5 h6
      subst h2
      have hM := h4.1
      have hcN := hc.1.2
      obtain ⟨a1, a2, a3⟩ := h3.at hn hR (i := k) (by omega)
      have a4 : g k = f k := h4.2.1 k (by omega)
      refine f59_16 ?_
      rw [a1, zand3 (by omega)]
      have z3 : ∀ _ : Unit, zw ((k : Nat) + 1) = ((k + 1 : Nat) : Int) := fun _ => by rw [zw_id (by omega) (by omega)]; omega
      refine ⟨fun z => absurd z (by omega), fun _ => ⟨by omega, fun z => f59_53 ?_, fun z => ?_⟩⟩
      · rw [z3 ()]
        refine ih (k + 1) s1 M g _ _ (by omega) (by omega) rfl h3 h4 (fun i hi hi2 hi3 => ?_) h6
        by_cases e : i = k
        · subst e
          rw [← a4] at hi3
          exact absurd (by unfold bt at hi3; omega) z
        · exact h5 i hi (by omega) hi3
      · have z := Classical.not_not.mp z
        have hbt : bt (f k) = u := by rw [← a4]; unfold bt; omega
        have e9 : zw (zw (((g k : Nat) : Int) - (u : Nat)) + (v : Nat)) = (rwd (f k) v : Nat) := by
          rw [a4, ← hbt]
          exact rwd_int (by omega) hv
        rw [e9]
        refine i55 (by omega) hR h3 (by omega) (hy k hk0 (by omega) hbt) fun s2 M2 g2 k1 k2 k3 k4 => f59_53 ?_
        rw [z3 ()]
        refine ih (k + 1) s2 M2 g2 _ _ (by omega) (by omega) rfl k1 (h4.trans (k2.mono fun z hz => ⟨k, hk0, by omega, hbt, hz⟩)) (fun i hi hi2 hi3 => ?_) (h6.trans k4)
        by_cases e : i = k
        · subst e; exact k3
        · exact k2.keep (h5 i hi (by omega) hi3)
  have hcN := hc.1.2
  refine e59 (by omega) (f59_0 ?_)
  rw [z1 ()]
  refine i246 (by omega) (by omega) h1 (by omega) (i246 (by omega) (by omega) h0 (by omega) ?_)
  exact l (b1 - b0) b0 s N f _ _ (by omega) (Nat.le_refl _) rfl hc (Gro.refl _ f N) (fun i hi hi2 => absurd hi (by omega)) (fAd.refl s)
def nwS (w : Pl) (t n m : Nat) (f B : Nat → Nat) (c z : Nat) : Prop := ∃ j i e, B j ≤ i ∧ i < B (j + 1) ∧ 0 < e ∧ j + e = c ∧ Eg w t n m (f i) z e
theorem i58a {w : Pl} {t n : Nat} {R : Nat → Prop} {N dn c : Nat} {f B : Nat → Nat} {P : Pl → Prop} (hd : 5 ≤ d) (hk : wOk w t n) (hw : sW w s) (hl : Lrn w t n s) (hR : Rok R) (hc : CS w n R s N f dn) (hdn : dn ≤ N) (hc4 : 1 ≤ c ∧ c ≤ 400) (hB : ∀ j, j ≤ c → s 67 ((j : Nat) : Int) = (B j : Nat)) (hBm : ∀ j, j < c → B j ≤ B (j + 1)) (hBN : B c = N) (hy : ∀ z, nwS w t n 1 f B c z → R z) (h : ∀ (s1 : Pl) (M : Nat) (g : Nat → Nat), CS w n R s1 M g dn → Gro (nwS w t n 1 f B c) f N g M → (∀ z, nwS w t n 1 f B c z → ∃ i, i < M ∧ g i = z) → fSr s s1 → P s1) : Ev xs L T0 106 d 58 [rf 65, it (c : Nat), it 1] s (qv P) := by
  have hn := hk.1.2
  have hcN := hc.1.2
  obtain ⟨c', rfl⟩ : ∃ c', c = c' + 1 := ⟨c - 1, by omega⟩
  have eS : ∀ z, nwS w t n 1 f B (c' + 1) z ↔ ∃ i, B c' ≤ i ∧ i < B (c' + 1) ∧ ∃ p q, swp w t n (f i) p q ∧ z = swd (f i) p q := by
    intro z
    constructor
    · rintro ⟨j, i, e, h1, h2, h3, h4, ⟨l, _, _, _, h5⟩ | ⟨p, q, h5, h6, h7⟩⟩
      · simp [egw] at h5; omega
      · simp at h7
        have : j = c' := by omega
        subst this
        exact ⟨i, h1, h2, p, q, h5, h6⟩
    · rintro ⟨i, h1, h2, p, q, h5, h6⟩
      exact ⟨c', i, 1, h1, h2, by omega, rfl, Or.inr ⟨p, q, h5, h6, by simp⟩⟩
  have hm1 := hBm c' (by omega)
  have l : ∀ (j k : Nat) (s1 : Pl) (M : Nat) (g : Nat → Nat) (v3 : Int) (w4 : Option AV), k + j = B (c' + 1) → B c' ≤ k → v3 = (k : Nat) → CS w n R s1 M g dn → Gro (nwS w t n 1 f B (c' + 1)) f N g M → (∀ i, B c' ≤ i → i < k → ∀ p q, swp w t n (f i) p q → ∃ i2, i2 < M ∧ g i2 = swd (f i) p q) → fSr s s1 → Fr xs L T0 106 (d - 1) 58 20 [some (rf 65), some (it ((c' + 1 : Nat) : Int)), some (it 1), some (it ((B (c' + 1) : Nat) : Int)), some (it v3), w4] [] s1 (qv P) := by
    intro j
    induction j with
    | zero =>
      intro k s1 M g v3 w4 hk9 hk0 h2 h3 h4 h5 h6
      refine f58_20 ⟨fun _ => h s1 M g h3 h4 (fun z hz => ?_) h6, fun z => absurd (by omega) z⟩
      obtain ⟨i, g1, g2, p, q, g3, rfl⟩ := (eS z).mp hz
      exact h5 i g1 (by omega) p q g3
    | succ j ih =>
      intro k s1 M g v3 w4 hk9 hk0 h2 h3 h4 h5 h6
      subst h2
      have hM := h4.1
      obtain ⟨a1, a2, a3⟩ := h3.at hn hR (i := k) (by omega)
      have a4 : g k = f k := h4.2.1 k (by omega)
      have z3 : ∀ _ : Unit, zw ((k : Nat) + 1) = ((k + 1 : Nat) : Int) := fun _ => by rw [zw_id (by omega) (by omega)]; omega
      rw [a4] at a1 a2
      refine f58_20 ?_
      rw [a1, z3 ()]
      refine ⟨fun z => absurd z (by omega), fun _ => ⟨by omega, ?_⟩⟩
      refine i42 (by omega) hk.1.1 hn a2 (h6.sW hw) fun s2 k1 k2 => ?_
      have h6b := h6.trans k2.fSr
      refine i57 (by omega) hk (h6b.sW hw) (h6b.Ln hl) hR (k2.Cs h3) (by omega) a2 k1 (fun p q hs => hy _ ((eS _).mpr ⟨k, hk0, by omega, p, q, hs, rfl⟩)) fun s3 M3 g3 m1 m2 m3 m4 => ?_
      refine ih (k + 1) s3 M3 g3 _ _ (by omega) (by omega) rfl m1 (h4.trans (m2.mono fun z hz => ?_)) (fun i hi hi2 p q hs => ?_) (h6b.trans m4.fSr)
      · obtain ⟨p, q, hs, rfl⟩ := hz
        exact (eS _).mpr ⟨k, hk0, by omega, p, q, hs, rfl⟩
      · by_cases e : i = k
        · subst e; exact m3 p q hs
        · exact m2.keep (h5 i hi (by omega) p q hs)
  have zc : ∀ _ : Unit, zw (((c' + 1 : Nat) : Int) - 1) = (c' : Nat) := fun _ => by rw [zw_id (by omega) (by omega)]; omega
  refine e58 (by omega) (f58_0 ⟨fun z => absurd rfl z, fun _ => ?_⟩)
  rw [zc ()]
  refine i246 (by omega) (by omega) (hB _ (by omega)) (by omega) (i246 (by omega) (by omega) (hB c' (by omega)) (by omega) ?_)
  exact l (B (c' + 1) - B c') (B c') s N f _ _ (by omega) (Nat.le_refl _) rfl hc (Gro.refl _ f N) (fun i hi hi2 => absurd hi (by omega)) (fSr.refl s)
theorem B_mono {B : Nat → Nat} {c : Nat} (h : ∀ j, j < c → B j ≤ B (j + 1)) : ∀ a b, a ≤ b → b ≤ c → B a ≤ B b := by
  intro a b hab
  induction hab with
  | refl => intro _; exact Nat.le_refl _
  | step hab ih =>
    rename_i m9
    intro hb
    have h1 := ih (by omega)
    have h2 := h m9 (by omega)
    exact Nat.le_trans h1 h2
theorem i58b {w : Pl} {t n m : Nat} {R : Nat → Prop} {N dn c : Nat} {f B : Nat → Nat} {P : Pl → Prop} (hm : m = 0 ∨ m = 2) (hd : 5 ≤ d) (hk : wOk w t n) (hw : sW w s) (hl : Lrn w t n s) (hR : Rok R) (hc : CS w n R s N f dn) (hdn : dn ≤ N) (hc4 : 1 ≤ c ∧ c ≤ 400) (hB : ∀ j, j ≤ c → s 67 ((j : Nat) : Int) = (B j : Nat)) (hBm : ∀ j, j < c → B j ≤ B (j + 1)) (hBN : B c = N) (hy : ∀ z, nwS w t n m f B c z → R z) (h : ∀ (s1 : Pl) (M : Nat) (g : Nat → Nat), CS w n R s1 M g dn → Gro (nwS w t n m f B c) f N g M → (∀ z, nwS w t n m f B c z → ∃ i, i < M ∧ g i = z) → fSr s s1 → P s1) : Ev xs L T0 106 d 58 [rf 65, it (c : Nat), it (m : Nat)] s (qv P) := by
  have hn := hk.1.2
  have hcN := hc.1.2
  have hmono := B_mono hBm
  -- what pairs of landings give
  have pr : ∀ a b, a < 4 → b < 4 → a ≠ b → 1 ≤ egw w t m a b ∧ egw w t m a b ≤ 99 := by
    intro a b _ _ _
    have := rowV_rng w t a b
    unfold egw
    rcases hm with rfl | rfl
    · rw [if_pos rfl]; exact this
    · rw [if_neg (by decide), if_pos rfl]; omega
  have pairS : ∀ a b j i z, a < 4 → b < 4 → a ≠ b → B j ≤ i → i < B (j + 1) → bt (f i) = a → ((j : Nat) : Int) + egw w t m a b = (c : Nat) → z = rwd (f i) b → nwS w t n m f B c z := by
    intro a b j i z ha hb hab h1 h2 h3 h4 h5
    have := pr a b ha hb hab
    refine ⟨j, i, (egw w t m a b).toNat, h1, h2, by omega, by omega, Or.inl ⟨b, hb, by omega, h5, ?_⟩⟩
    rw [h3]; omega
  have lv : ∀ (u : Nat), u < 4 → (∀ (s1 : Pl) (M : Nat) (g : Nat → Nat) (v4 : Int) (w5 : Option AV), CS w n R s1 M g dn → Gro (nwS w t n m f B c) f N g M → (∀ a b j i, a < u + 1 → b < 4 → a ≠ b → B j ≤ i → i < B (j + 1) → bt (f i) = a → ((j : Nat) : Int) + egw w t m a b = (c : Nat) → ∃ i2, i2 < M ∧ g i2 = rwd (f i) b) → fAd s s1 → Fr xs L T0 106 (d - 1) 58 62 [some (rf 65), some (it (c : Nat)), some (it (m : Nat)), some (it ((u + 1 : Nat) : Int)), some (it v4), w5] [] s1 (qv P)) → ∀ (j2 k : Nat) (s1 : Pl) (M : Nat) (g : Nat → Nat) (v4 : Int) (w5 : Option AV), k + j2 = 4 → v4 = (k : Nat) → CS w n R s1 M g dn → Gro (nwS w t n m f B c) f N g M → (∀ a b j i, (a < u ∨ a = u ∧ b < k) → b < 4 → a ≠ b → B j ≤ i → i < B (j + 1) → bt (f i) = a → ((j : Nat) : Int) + egw w t m a b = (c : Nat) → ∃ i2, i2 < M ∧ g i2 = rwd (f i) b) → fAd s s1 → Fr xs L T0 106 (d - 1) 58 70 [some (rf 65), some (it (c : Nat)), some (it (m : Nat)), some (it (u : Nat)), some (it v4), w5] [] s1 (qv P) := by
    intro u hu out j2
    have zu : ∀ _ : Unit, zw ((u : Nat) + 1) = ((u + 1 : Nat) : Int) := fun _ => by rw [zw_id (by omega) (by omega)]; omega
    induction j2 with
    | zero =>
      intro k s1 M g v4 w5 hk9 h2 h3 h4 h5 h6
      refine f58_70 ⟨fun _ => ?_, fun z => absurd (by omega) z⟩
      rw [zu ()]
      exact out s1 M g _ _ h3 h4 (fun a b j i ha hb => h5 a b j i (by omega) hb) h6
    | succ j2 ih =>
      intro k s1 M g v4 w5 hk9 h2 h3 h4 h5 h6
      subst h2
      have z3 : ∀ _ : Unit, zw ((k : Nat) + 1) = ((k + 1 : Nat) : Int) := fun _ => by rw [zw_id (by omega) (by omega)]; omega
      have z6 : ∀ _ : Unit, zw (zw (4 * (u : Nat)) + (k : Nat)) = 4 * (u : Nat) + (k : Nat) := fun _ => by rw [zw_id (x := 4 * ((u : Nat) : Int)) (by omega) (by omega), zw_id (by omega) (by omega)]
      have nx : ∀ (s2 : Pl) (M2 : Nat) (g2 : Nat → Nat) (w6 : Int), CS w n R s2 M2 g2 dn → Gro (nwS w t n m f B c) f N g2 M2 → (∀ a b j i, (a < u ∨ a = u ∧ b < k + 1) → b < 4 → a ≠ b → B j ≤ i → i < B (j + 1) → bt (f i) = a → ((j : Nat) : Int) + egw w t m a b = (c : Nat) → ∃ i2, i2 < M2 ∧ g2 i2 = rwd (f i) b) → fAd s s2 → Fr xs L T0 106 (d - 1) 58 129 [some (rf 65), some (it (c : Nat)), some (it (m : Nat)), some (it (u : Nat)), some (it (k : Nat)), some (it w6)] [] s2 (qv P) := by
        intro s2 M2 g2 w6 q1 q2 q3 q4
        refine f58_129 ?_
        rw [z3 ()]
        exact ih (k + 1) s2 M2 g2 _ _ (by omega) rfl q1 q2 q3 q4
      have key : ∀ vs : Int, (u ≠ k → vs = egw w t m u k) → Fr xs L T0 106 (d - 1) 58 98 [some (rf 65), some (it (c : Nat)), some (it (m : Nat)), some (it (u : Nat)), some (it (k : Nat)), w5] [it vs] s1 (qv P) := by
        intro vs hvs
        refine f58_98 ⟨fun a => nx s1 M g _ h3 h4 (fun a1 b1 j i ha hb hab => h5 a1 b1 j i (by omega) hb hab) h6, fun a => ?_⟩
        have hvs := hvs (by omega)
        have hp := pr u k hu (by omega) (by omega)
        refine ⟨fun z => absurd z (by omega), fun _ => ⟨fun z => nx s1 M g _ h3 h4 (fun a1 b1 j i ha hb hab g1 g2 g3 g4 => ?_) h6, fun z => ?_⟩⟩
        · by_cases e : a1 = u ∧ b1 = k
          · rw [e.1, e.2] at g4; omega
          · exact h5 a1 b1 j i (by omega) hb hab g1 g2 g3 g4
        · obtain ⟨e, he⟩ : ∃ e : Nat, egw w t m u k = (e : Nat) := ⟨(egw w t m u k).toNat, by omega⟩
          have zc : ∀ _ : Unit, zw ((c : Nat) - vs) = ((c - e : Nat) : Int) := fun _ => by rw [zw_id (by omega) (by omega)]; omega
          rw [zc ()]
          have hM := h4.1
          have e65 : ∀ j, j ≤ c → s1 67 ((j : Nat) : Int) = (B j : Nat) := fun j hj => by rw [h6 67 _ (by decide) (by decide) (fun e => absurd e (by decide))]; exact hB j hj
          have hb1 : B (c - e + 1) ≤ N := by rw [← hBN]; exact hmono _ _ (by omega) (by omega)
          have gf : ∀ i, i < B (c - e + 1) → g i = f i := fun i hi => h4.2.1 i (by omega)
          refine i59 (by omega) hn hR h3 (by omega) hu (by omega) (by omega) (e65 _ (by omega)) (e65 _ (by omega)) (by omega) (hBm _ (by omega)) (fun i hi1 hi2 hi3 => ?_) fun s2 M2 g2 k1 k2 k3 k4 => ?_
          · rw [gf i hi2] at hi3 ⊢
            exact hy _ (pairS u k (c - e) i _ hu (by omega) (by omega) hi1 hi2 hi3 (by omega) rfl)
          · refine nx s2 M2 g2 _ k1 (h4.trans (k2.mono fun z hz => ?_)) (fun a1 b1 j i ha hb hab g1 g2a g3 g4 => ?_) (h6.trans k4)
            · obtain ⟨i, q1, q2, q3, q4⟩ := hz
              rw [gf i q2] at q3 q4
              exact pairS u k (c - e) i _ hu (by omega) (by omega) q1 q2 q3 (by omega) q4
            · by_cases e9 : a1 = u ∧ b1 = k
              · rw [e9.1, e9.2] at g4
                have hj : j = c - e := by omega
                subst hj
                have := k3 i g1 g2a (by rw [gf i g2a, g3, e9.1])
                rw [gf i g2a] at this
                rw [e9.2]
                exact this
              · exact k2.keep (h5 a1 b1 j i (by omega) hb hab g1 g2a g3 g4)
      refine f58_70 ⟨fun z => absurd z (by omega), fun _ => ⟨fun z => key 1 fun huk => ?_, fun z => ⟨by rw [z6 ()]; omega, key _ fun huk => ?_⟩⟩⟩
      · have : m = 2 := by omega
        subst this
        simp [egw]
      · have : m = 0 := by omega
        subst this
        rw [z6 (), h6 59 _ (by decide) (by decide) (fun e => absurd e (by decide)), hl.2.2.1 u k hu (by omega), if_neg huk]
        simp [egw]
  have lu : ∀ (j2 k : Nat) (s1 : Pl) (M : Nat) (g : Nat → Nat) (v3 : Int) (w4 w5 : Option AV), k + j2 = 4 → v3 = (k : Nat) → CS w n R s1 M g dn → Gro (nwS w t n m f B c) f N g M → (∀ a b j i, a < k → b < 4 → a ≠ b → B j ≤ i → i < B (j + 1) → bt (f i) = a → ((j : Nat) : Int) + egw w t m a b = (c : Nat) → ∃ i2, i2 < M ∧ g i2 = rwd (f i) b) → fAd s s1 → Fr xs L T0 106 (d - 1) 58 62 [some (rf 65), some (it (c : Nat)), some (it (m : Nat)), some (it v3), w4, w5] [] s1 (qv P) := by
    intro j2
    induction j2 with
    | zero =>
      intro k s1 M g v3 w4 w5 hk9 h2 h3 h4 h5 h6
      refine f58_62 ⟨fun _ => h s1 M g h3 h4 (fun z hz => ?_) h6.fSr, fun z => absurd (by omega) z⟩
      obtain ⟨j, i, e, g1, g2, g3, g4, ⟨l, q1, q2, q3, q4⟩ | ⟨p, q, _, _, q3⟩⟩ := hz
      · have hbl := bt_lt (f i)
        rw [q3]
        exact h5 (bt (f i)) l j i (by omega) q1 (fun e => q2 e.symm) g1 g2 rfl (by omega)
      · rcases hm with rfl | rfl
        · simp at q3; omega
        · simp at q3; omega
    | succ j2 ih =>
      intro k s1 M g v3 w4 w5 hk9 h2 h3 h4 h5 h6
      subst h2
      refine f58_62 ⟨fun z => absurd z (by omega), fun _ => ?_⟩
      exact lv k (by omega) (fun s2 M2 g2 v4 w6 k1 k2 k3 k4 => ih (k + 1) s2 M2 g2 _ _ _ (by omega) rfl k1 k2 k3 k4) 4 0 s1 M g _ _ rfl rfl h3 h4 (fun a b j i ha hb => h5 a b j i (by omega) hb) h6
  refine e58 (by omega) (f58_0 ⟨fun z => lu 4 0 s N f _ _ _ rfl rfl hc (Gro.refl _ f N) (fun a b j i ha => absurd ha (by omega)) (fAd.refl s), fun z => absurd (by omega) z⟩)
