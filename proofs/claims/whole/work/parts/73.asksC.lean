/-! what the class reads off its list of states -/
def an9 (a c : Nat) : Nat := a &&& (63 ^^^ c)
theorem an9_int : ∀ a, a < 64 → ∀ c, c < 64 → zand (a : Nat) (zxor (c : Nat) (-1)) = ((an9 a c : Nat) : Int) := by decide +kernel
theorem an9_bit : ∀ a, a < 64 → ∀ c, c < 64 → an9 a c < 64 ∧ ∀ p, p < 6 → (an9 a c).testBit p = (a.testBit p && !c.testBit p) := by decide +kernel
theorem all_bits : ∀ n, n ≤ 6 → zw (zshl 1 (n : Nat) - 1) = ((btn (fun _ => true) n : Nat) : Int) := by decide +kernel
theorem btn_an {f g : Nat → Bool} {n : Nat} (hn : n ≤ 6) : zand (btn f n : Nat) (zxor (btn g n : Nat) (-1)) = ((btn (fun p => f p && !g p) n : Nat) : Int) := by
  rw [an9_int _ (btn_lt64 f hn) _ (btn_lt64 g hn)]
  have h := an9_bit _ (btn_lt64 f hn) _ (btn_lt64 g hn)
  congr 1
  refine btn_eq hn h.1 fun p hp => ?_
  rw [h.2 p hp, btn_bit, btn_bit]
  by_cases e : p < n <;> simp [e]
theorem btn_an2 {f : Nat → Bool} {n k : Nat} (hn : n ≤ 6) (hk : k < 6) : zand (btn f n : Nat) (zxor (zshl 1 (k : Nat)) (-1)) = ((btn (fun p => f p && decide (p ≠ k)) n : Nat) : Int) := clr_btn hn hk
theorem btn_or {f g : Nat → Bool} {n : Nat} (hn : n ≤ 6) : zor (btn f n : Nat) (btn g n : Nat) = ((btn (fun p => f p || g p) n : Nat) : Int) := by
  rw [zor_nn _ (btn_lt64 f hn) _ (btn_lt64 g hn)]
  congr 1
  refine btn_eq hn (Nat.or_lt_two_pow (n := 6) (btn_lt64 f hn) (btn_lt64 g hn)) fun p hp => ?_
  rw [Nat.testBit_or, btn_bit, btn_bit]
  by_cases e : p < n <;> simp [e]
/-- who must come; there are all of those but some -/
def QT (w : Pl) (n : Nat) (S : Nat → Bool) (y : Nat) : Prop := ∀ p, p < n → S p = true → uA (w 3 p) 3 = false → ((pl y p : Nat) : Int) = w 4 p
theorem aw_sub {w : Pl} {n : Nat} (hn : n ≤ 6) (g : Nat → Bool) (y : Nat) : zand (awV w n y : Nat) (btn g n : Nat) = (btn g n : Nat) ↔ ∀ p, p < n → g p = true → ((pl y p : Nat) : Int) = w 4 p := by
  unfold awV
  rw [zand_sub (btn_lt64 _ hn) (btn_lt64 _ hn)]
  constructor
  · intro h p hp hg
    have := h p (by omega) (by rw [btn_bit]; simp [hp, hg])
    rw [btn_bit] at this
    simpa [hp] using this
  · intro h p hp hg
    rw [btn_bit] at hg ⊢
    simp at hg
    simp [hg.1, h p hg.1 hg.2]
theorem QT_need {w : Pl} {n : Nat} (hn : n ≤ 6) (S : Nat → Bool) (y : Nat) : zand (awV w n y : Nat) (btn (fun p => !uA (w 3 p) 3 && S p) n : Nat) = (btn (fun p => !uA (w 3 p) 3 && S p) n : Nat) ↔ QT w n S y := by
  rw [aw_sub hn]
  unfold QT
  constructor
  · intro h p hp hS hu
    exact h p hp (by simp [hS, hu])
  · intro h p hp hg
    simp at hg
    exact h p hp hg.2 hg.1
variable {xs : Nat → Int} {L : Nat} {d : Nat} {s : Pl}
theorem i40 {w : Pl} {t n : Nat} {P : Int → Pl → Prop} (hd : 1 ≤ d) (hn : n ≤ 6) (h1 : s 1 1 = (n : Nat)) (hl : Lrn w t n s) (h : P ((btn (fun p => !uA (w 3 p) 3) n : Nat) : Int) s) : Ev xs L T0 106 d 40 [rf 58] s (qi P) := by
  refine e40 hd (f40_0 ?_)
  rw [h1, all_bits n hn, hl.2.1.2.2.1, btn_an hn]
  simpa using h
/-- least -/
theorem i60 {w : Pl} {t n m x0 Lm : Nat} {Q : Nat → Prop} {v1 : Int} {P : Int → Pl → Prop} (hd : 3 ≤ d) (hn : n ≤ 6) (hs : SolC w t n m x0 Lm s) (hQ : ∀ x, zand (awV w n x : Nat) v1 = v1 ↔ Q x) (h : ∀ r : Int, lst w t n m x0 Lm Q r → P r s) : Ev xs L T0 106 d 60 [rf 65, it v1] s (qi P) := by
  obtain ⟨N, C, f, B, ⟨a1, a2⟩, ⟨a3, a4, a5⟩, a6, ⟨b1, b2, b3, b4⟩, a7, a8, a9⟩ := hs
  have hmono := B_mono b3
  have ea : ∀ k : Nat, k < N → zshr (s 66 ((k : Nat) : Int)) 16 = (awV w n (f k) : Nat) := fun k hk => by
    have haw : awV w n (f k) < 64 := btn_lt64 _ hn
    have hf := (a8 k hk).1
    rw [a6 k hk, show (16 : Int) = ((16 : Nat) : Int) from rfl, zshr_nat (by omega) (by decide)]
    congr 1
    omega
  have inn : ∀ (c : Nat), c < C → (∀ i, i < B c → ¬ Q (f i)) → (∀ v3 v4 : Int, (∀ i, i < B (c + 1) → ¬ Q (f i)) → Fr xs L T0 106 (d - 1) 60 2 [some (rf 65), some (it v1), some (it ((c + 1 : Nat) : Int)), some (it v3), some (it v4)] [] s (qi P)) → ∀ (j k : Nat) (v3 : Int), k + j = B (c + 1) → B c ≤ k → v3 = (k : Nat) → (∀ i, i < k → ¬ Q (f i)) → Fr xs L T0 106 (d - 1) 60 25 [some (rf 65), some (it v1), some (it (c : Nat)), some (it ((B (c + 1) : Nat) : Int)), some (it v3)] [] s (qi P) := by
    intro c hc hlow out j
    have zc : ∀ _ : Unit, zw ((c : Nat) + 1) = ((c + 1 : Nat) : Int) := fun _ => by rw [zw_id (by omega) (by omega)]; omega
    have hB1 : B (c + 1) ≤ N := by rw [← b2]; exact hmono _ _ (by omega) (by omega)
    induction j with
    | zero =>
      intro k v3 hk hk0 h2 h3
      refine f60_25 ⟨fun _ => ?_, fun z => absurd (by omega) z⟩
      rw [zc ()]
      exact out _ v3 (fun i hi => h3 i (by omega))
    | succ j ih =>
      intro k v3 hk hk0 h2 h3
      subst h2
      have zk : ∀ _ : Unit, zw ((k : Nat) + 1) = ((k + 1 : Nat) : Int) := fun _ => by rw [zw_id (by omega) (by omega)]; omega
      refine f60_25 ?_
      rw [zk (), ea k (by omega), hQ]
      refine ⟨fun z => absurd z (by omega), fun _ => ⟨by omega, fun z => ?_, fun z => ?_⟩⟩
      · refine ih (k + 1) _ (by omega) (by omega) rfl fun i hi => ?_
        by_cases e : i = k
        · subst e; exact z
        · exact h3 i (by omega)
      · have z := Classical.not_not.mp z
        refine h _ (Or.inr ⟨c, rfl, ⟨f k, (a9 _ _).mpr ⟨hc, k, hk0, by omega, rfl⟩, z⟩, fun y j2 hd9 hq => ?_⟩)
        obtain ⟨q1, i, q2, q3, q4⟩ := (a9 _ _).mp hd9
        refine Nat.le_of_not_lt fun hlt => ?_
        have := hmono (j2 + 1) c (by omega) (by omega)
        exact hlow i (by omega) (by rw [q4]; exact hq)
  have out : ∀ (j c : Nat) (v2 : Int) (w3 w4 : Option AV), c + j = C → v2 = (c : Nat) → (∀ i, i < B c → ¬ Q (f i)) → Fr xs L T0 106 (d - 1) 60 2 [some (rf 65), some (it v1), some (it v2), w3, w4] [] s (qi P) := by
    intro j
    induction j with
    | zero =>
      intro c v2 w3 w4 hc h2 h3
      have e : c = C := by omega
      subst e
      refine f60_2 ⟨fun _ => h _ (Or.inl ⟨rfl, fun y k hd9 => ?_⟩), fun z => absurd (by omega) z⟩
      obtain ⟨q1, i, q2, q3, q4⟩ := (a9 _ _).mp hd9
      have := hmono (k + 1) c (by omega) (by omega)
      rw [← q4]
      exact h3 i (by omega)
    | succ j ih =>
      intro c v2 w3 w4 hc h2 h3
      subst h2
      have zc : ∀ _ : Unit, zw ((c : Nat) + 1) = ((c + 1 : Nat) : Int) := fun _ => by rw [zw_id (by omega) (by omega)]; omega
      have hB1 : B (c + 1) ≤ N := by rw [← b2]; exact hmono _ _ (by omega) (by omega)
      have hB0 := b3 c (by omega)
      refine f60_2 ?_
      rw [zc ()]
      refine ⟨fun z => absurd z (by omega), fun _ => i246 (by omega) (by omega) (b4 (c + 1) (by omega)) (by omega) (i246 (by omega) (by omega) (b4 c (by omega)) (by omega) ?_)⟩
      exact inn c (by omega) h3 (fun v3 v4 h4 => ih (c + 1) _ _ _ (by omega) rfl h4) (B (c + 1) - B c) (B c) _ (by omega) (Nat.le_refl _) rfl h3
  exact e60 (by omega) (f60_0 (out C 0 _ _ _ (by omega) rfl (fun i hi => absurd hi (by omega))))
theorem i61 {w : Pl} {t n m x0 Lm : Nat} {P : Int → Pl → Prop} (hd : 4 ≤ d) (hn : n ≤ 6) (h1 : s 1 1 = (n : Nat)) (hl : Lrn w t n s) (hs : SolC w t n m x0 Lm s) (h : ∀ r : Int, lst w t n m x0 Lm (QT w n (fun _ => true)) r → P r s) : Ev xs L T0 106 d 61 [rf 65] s (qi P) := by
  refine e61 (by omega) (f61_0 (i40 (by omega) hn h1 hl (i60 (by omega) hn hs (fun x => ?_) h)))
  have := QT_need (w := w) hn (fun _ => true) x
  simpa using this
/-- who is ever at TO -/
theorem i62 {w : Pl} {t n m x0 : Nat} {P : Int → Pl → Prop} (hd : 1 ≤ d) (hn : n ≤ 6) (hs : SolC w t n m x0 400 s) (h : ∀ f : Nat → Bool, (∀ p, p < n → (f p = true ↔ ∃ y k, DD w t n m x0 400 y k ∧ ((pl y p : Nat) : Int) = w 4 p)) → P ((btn f n : Nat) : Int) s) : Ev xs L T0 106 d 62 [rf 65] s (qi P) := by
  obtain ⟨N, C, f, B, ⟨a1, a2⟩, ⟨a3, a4, a5⟩, a6, ⟨b1, b2, b3, b4⟩, a7, a8, a9⟩ := hs
  have hmono := B_mono b3
  have ea : ∀ k : Nat, k < N → zshr (s 66 ((k : Nat) : Int)) 16 = (awV w n (f k) : Nat) := fun k hk => by
    have haw : awV w n (f k) < 64 := btn_lt64 _ hn
    have hf := (a8 k hk).1
    rw [a6 k hk, show (16 : Int) = ((16 : Nat) : Int) from rfl, zshr_nat (by omega) (by decide)]
    congr 1
    omega
  have l : ∀ (j k : Nat) (v2 : Int) (F : Nat → Bool), k + j = N → v2 = (k : Nat) → (∀ p, p < n → (F p = true ↔ ∃ i, i < k ∧ ((pl (f i) p : Nat) : Int) = w 4 p)) → Fr xs L T0 106 (d - 1) 62 4 [some (rf 65), some (it ((btn F n : Nat) : Int)), some (it v2)] [] s (qi P) := by
    intro j
    induction j with
    | zero =>
      intro k v2 F hk h2 h3
      have e : k = N := by omega
      subst e
      refine f62_4 ⟨fun _ => h F fun p hp => ?_, fun z => absurd (by omega) z⟩
      rw [h3 p hp]
      constructor
      · rintro ⟨i, q1, q2⟩
        rw [← b2] at q1
        obtain ⟨c, q3, q4, q5⟩ := lay_ex b1 _ _ q1
        exact ⟨f i, c, (a9 _ _).mpr ⟨q3, i, q4, q5, rfl⟩, q2⟩
      · rintro ⟨y, c, q1, q2⟩
        obtain ⟨q3, i, q4, q5, q6⟩ := (a9 _ _).mp q1
        have := hmono (c + 1) C (by omega) (by omega)
        exact ⟨i, by omega, by rw [q6]; exact q2⟩
    | succ j ih =>
      intro k v2 F hk h2 h3
      subst h2
      refine f62_4 ⟨fun z => absurd z (by omega), fun _ => ⟨fun z => absurd z (by omega), fun _ => ⟨by omega, ?_⟩⟩⟩
      rw [ea k (by omega)]
      unfold awV
      rw [btn_or hn]
      refine ih (k + 1) _ _ (by omega) (by rw [zw_id (by omega) (by omega)]; omega) fun p hp => ?_
      simp only [Bool.or_eq_true, decide_eq_true_eq]
      rw [h3 p hp]
      constructor
      · rintro (⟨i, q1, q2⟩ | q)
        · exact ⟨i, by omega, q2⟩
        · exact ⟨k, by omega, q⟩
      · rintro ⟨i, q1, q2⟩
        by_cases e : i = k
        · subst e; exact Or.inr q2
        · exact Or.inl ⟨i, by omega, q2⟩
  have e0 : (0 : Int) = ((btn (fun _ => false) n : Nat) : Int) := by
    have := (btn_zero (f := fun _ => false) (n := n)).mpr (fun _ _ => rfl)
    rw [this]; rfl
  refine e62 hd (f62_0 ?_)
  have := l N 0 0 (fun _ => false) (by omega) rfl (fun p hp => ⟨fun q => absurd q (by decide), fun ⟨i, q, _⟩ => absurd q (by omega)⟩)
  rw [← e0] at this
  exact this
/-! the most gain -/
def gsm (w : Pl) (t y : Nat) (hr : Int) : Nat → Int
  | 0 => 0
  | k + 1 => gsm w t y hr k + if ((pl y k : Nat) : Int) = w 4 k then gainV w t k hr else 0
theorem gainV_rng (w : Pl) (t p : Nat) (hr : Int) : 0 ≤ gainV w t p hr ∧ gainV w t p hr ≤ 999 := by
  unfold gainV held9
  split <;> (try split) <;> omega
theorem gsm_rng (w : Pl) (t y : Nat) (hr : Int) (k : Nat) : 0 ≤ gsm w t y hr k ∧ gsm w t y hr k ≤ 999 * (k : Nat) := by
  induction k with
  | zero => simp [gsm]
  | succ k ih =>
    have := gainV_rng w t k hr
    simp only [gsm]
    split <;> omega
def bstV (w : Pl) (t n x0 hour : Nat) (a b : Int) : Prop := (∃ y k : Nat, DD w t n 0 x0 400 y k ∧ k ≤ hour ∧ a = gsm w t y (k : Nat) n ∧ b = (k : Nat)) ∧ ∀ y k : Nat, DD w t n 0 x0 400 y k → k ≤ hour → gsm w t y (k : Nat) n < a ∨ gsm w t y (k : Nat) n = a ∧ b ≤ (k : Nat)
theorem bstV.uniq {w : Pl} {t n x0 hour : Nat} {a b a2 b2 : Int} (h1 : bstV w t n x0 hour a b) (h2 : bstV w t n x0 hour a2 b2) : a = a2 ∧ b = b2 := by
  obtain ⟨⟨y, k, p1, p2, p3, p4⟩, p5⟩ := h1
  obtain ⟨⟨y2, k2, q1, q2, q3, q4⟩, q5⟩ := h2
  have r1 := p5 y2 k2 q1 q2
  have r2 := q5 y k p1 p2
  omega
