/-! the class's reader: a token -/
theorem zup_zup (s : Pl) (k : Nat) (i a b : Int) : zup (zup s k i a) k i b = zup s k i b := by
  funext c j
  rw [zg, zg, zg]
  by_cases h : c = k ∧ j = i
  · rw [if_pos h, if_pos h]
  · rw [if_neg h, if_neg h, if_neg h]
theorem zup_self {s : Pl} {k : Nat} {i a : Int} (h : s k i = a) : zup s k i a = s := by
  funext c j
  rw [zg]
  by_cases e : c = k ∧ j = i
  · rw [if_pos e, e.1, e.2, h]
  · rw [if_neg e]
def tS (f : Int → Int) (m : Nat) (s : Pl) : Prop := s 53 1 = ((m : Nat) : Int) ∧ m ≤ 160 ∧ ∀ i : Nat, i < m → s 54 ((i : Nat) : Int) = f ((i : Nat) : Int) ∧ 0 ≤ f ((i : Nat) : Int) ∧ f ((i : Nat) : Int) ≤ 255
theorem tS.cong {f : Int → Int} {m : Nat} {s s1 : Pl} (h : tS f m s) (k : s1 53 1 = s 53 1) (k2 : s1 54 = s 54) : tS f m s1 := by
  unfold tS
  rw [k, k2]
  exact h
theorem tS.up {f : Int → Int} {m : Nat} {s : Pl} (h : tS f m s) {i v : Int} (hi : i ≠ 1) : tS f m (zup s 53 i v) := h.cong (by rw [zg, if_neg (by omega)]) (by rw [zune _ _ _ (by decide)])
theorem wtab : ∀ k, k < 12 → wsz k ≤ 4 ∧ 1 ≤ wsz k ∧ ∀ i, i < 5 → (wch (5 * k + i) = 32 ↔ wsz k ≤ i) := by decide +kernel
section TOK
variable {xs : Nat → Int} {L : Nat} {T : List (Nat × Int × Int)} {n d : Nat} {s : Pl} {f : Int → Int} {m : Nat}
theorem i27 (hK : KR T n) (hS : tS f m s) {k : Nat} (hk : k < m) {P : Int → Pl → Prop} (hd : 1 ≤ d) (h : P (f ((k : Nat) : Int)) s) : Ev xs L T n d 27 [rf 54, it ((k : Nat) : Int)] s (qi P) := by
  obtain ⟨h1, h2, h3⟩ := hS
  refine e27 hd (f27_0 hK ?_)
  rw [h1, (h3 k hk).1]
  exact ⟨fun g => absurd g (by omega), fun _ => ⟨fun g => absurd g (by omega), fun _ => ⟨fun g => absurd g (by omega), fun _ => ⟨by omega, h⟩⟩⟩⟩
theorem i27n (hK : KR T n) (hS : tS f m s) {k : Nat} (hk : m ≤ k) {P : Int → Pl → Prop} (hd : 1 ≤ d) (h : P (-1) s) : Ev xs L T n d 27 [rf 54, it ((k : Nat) : Int)] s (qi P) := by
  obtain ⟨h1, h2, h3⟩ := hS
  refine e27 hd (f27_0 hK ?_)
  rw [h1]
  exact ⟨fun _ => h, fun _ => ⟨fun _ => h, fun g => absurd g (by omega)⟩⟩
def inR (lo hi : Int) (b : Int) : Bool := decide (lo ≤ b ∧ b ≤ hi)
theorem l29 (hK : KR T n) (hd : 1 ≤ d) {lo hi : Int} {P : Pl → Prop} (hS : tS f m s) : ∀ (j k : Nat), k + j = m → P (zup s 53 4 ((rn f (inR lo hi) j k : Nat) : Int)) → Fr xs L T n d 29 5 [some (rf 54), some (it lo), some (it hi), some (it ((k : Nat) : Int))] [] (zup s 53 4 ((k : Nat) : Int)) (qv P) := by
  intro j
  induction j with
  | zero =>
    intro k hk h
    have h1 := (hS.up (i := 4) (v := ((k : Nat) : Int)) (by decide)).1
    refine f29_5 hK ?_
    rw [h1]
    exact ⟨fun _ => h, fun g => absurd g (by omega)⟩
  | succ j ih =>
    intro k hk h
    have hS2 := hS.up (i := 4) (v := ((k : Nat) : Int)) (by decide)
    have h1 := hS2.1
    have hm := hS.2.1
    refine f29_5 hK ?_
    rw [h1]
    unfold rn at h
    refine ⟨fun g => absurd g (by omega), fun _ => i27 hK hS2 (by omega) hd ?_⟩
    by_cases e : inR lo hi (f ((k : Nat) : Int)) = true
    · rw [if_pos e] at h
      simp only [inR, decide_eq_true_eq] at e
      refine ⟨fun g => absurd g (by omega), fun _ => i27 hK hS2 (by omega) hd ⟨fun g => absurd g (by omega), fun _ => ?_⟩⟩
      rw [zw_id (by omega) (by omega), zup_zup]
      exact ih (k + 1) (by omega) h
    · rw [if_neg e] at h
      simp only [inR, decide_eq_true_eq] at e
      refine ⟨fun _ => h, fun g => i27 hK hS2 (by omega) hd ⟨fun _ => h, fun g2 => absurd ⟨by omega, by omega⟩ e⟩⟩
theorem i29 (hK : KR T n) (hd : 2 ≤ d) {lo hi : Int} {P : Pl → Prop} (hS : tS f m s) {k : Nat} (hk : k ≤ m) (h4 : s 53 4 = ((k : Nat) : Int)) (h : P (zup s 53 4 ((rn f (inR lo hi) (m - k) k : Nat) : Int))) : Ev xs L T n d 29 [rf 54, it lo, it hi] s (qv P) := by
  refine e29 (by omega) (f29_0 hK ?_)
  rw [h4]
  have := l29 (xs := xs) (L := L) hK (d := d - 1) (by omega) hS (m - k) k (by omega) h
  rw [zup_self h4] at this
  exact this
theorem l30 (hK : KR T n) (hd : 1 ≤ d) {p len : Nat} {P : Int → Pl → Prop} (hS : tS f m s) (hl : len ≤ 4) (hp : p + len ≤ m) (hg : ∀ k, p ≤ k → k < p + len → isDg (f ((k : Nat) : Int)) = true) : ∀ (j k : Nat) (a : Int), k + j = len → 0 ≤ a → a ≤ 9999 → (j = 0 ∨ j = 1 ∧ a ≤ 999 ∨ j = 2 ∧ a ≤ 99 ∨ j = 3 ∧ a ≤ 9 ∨ j = 4 ∧ a = 0) → P 300 (zup s 53 6 (numv f j (p + k) a)) → Fr xs L T n d 30 16 [some (rf 54), some (it ((p : Nat) : Int)), some (it ((len : Nat) : Int)), some (it ((k : Nat) : Int))] [] (zup s 53 6 a) (qi P) := by
  intro j
  induction j with
  | zero =>
    intro k a hk _ _ _ h
    refine f30_16 hK ⟨fun _ => h, fun g => absurd g (by omega)⟩
  | succ j ih =>
    intro k a hk h0 h9 hb h
    have hS2 := hS.up (i := 6) (v := a) (by decide)
    have hm := hS.2.1
    have g := hg (p + k) (by omega) (by omega)
    simp only [isDg, decide_eq_true_eq] at g
    refine f30_16 hK ⟨fun g => absurd g (by omega), fun _ => ?_⟩
    rw [zw_id (x := (p : Int) + (k : Int)) (by omega) (by omega), show ((p : Nat) : Int) + ((k : Nat) : Int) = ((p + k : Nat) : Int) from by omega]
    refine i27 hK hS2 (by omega) hd ?_
    have e6 : zup s 53 6 a 53 6 = a := by rw [zg, if_pos ⟨rfl, rfl⟩]
    rw [e6, zw_id (x := 10 * a) (by omega) (by omega), zw_id (x := 10 * a + f ((p + k : Nat) : Int)) (by omega) (by omega), zw_id (x := 10 * a + f ((p + k : Nat) : Int) - 48) (by omega) (by omega), zup_zup, zw_id (x := ((k : Nat) : Int) + 1) (by omega) (by omega)]
    refine ih (k + 1) _ (by omega) (by omega) (by omega) (by omega) ?_
    exact h
theorem i30 (hK : KR T n) (hd : 2 ≤ d) {p len : Nat} {P : Int → Pl → Prop} (hS : tS f m s) (hp : p + len ≤ m) (hg : ∀ k, p ≤ k → k < p + len → isDg (f ((k : Nat) : Int)) = true) (h1 : 4 < len → P 302 s) (h2 : len ≤ 4 → P 300 (zup s 53 6 (numv f len p 0))) : Ev xs L T n d 30 [rf 54, it ((p : Nat) : Int), it ((len : Nat) : Int)] s (qi P) := by
  refine e30 (by omega) (f30_0 hK ⟨fun g => ?_, fun g => h1 (by omega)⟩)
  exact l30 hK (by omega) hS (by omega) hp hg len 0 0 (by omega) (by decide) (by decide) (by omega) (h2 (by omega))
def wqq (f : Int → Int) (p e k : Nat) : Prop := e = p + wsz k ∧ ∀ i, i < wsz k → f ((p + i : Nat) : Int) = wch (5 * k + i)
theorem l32 (hK : KR T n) (hd : 4 ≤ d) {p len w : Nat} {P : Int → Pl → Prop} (hS : tS f m s) (hw : w < 12) (hl : len ≤ 4) (hp : p + len ≤ m) (h1 : (∀ i, i < len → f ((p + i : Nat) : Int) = wch (5 * w + i)) → P 1 s) (h0 : ¬ (∀ i, i < len → f ((p + i : Nat) : Int) = wch (5 * w + i)) → P 0 s) : ∀ (j k : Nat), k + j = len → (∀ i, i < k → f ((p + i : Nat) : Int) = wch (5 * w + i)) → Fr xs L T n d 32 55 [some (rf 54), some (it ((5 * w : Nat) : Int)), some (it ((p : Nat) : Int)), some (it ((len : Nat) : Int)), some (it ((k : Nat) : Int))] [] s (qi P) := by
  intro j
  induction j with
  | zero =>
    intro k hk hq
    exact f32_55 hK ⟨fun _ => h1 (fun i hi => hq i (by omega)), fun g => absurd g (by omega)⟩
  | succ j ih =>
    intro k hk hq
    have hm := hS.2.1
    refine f32_55 hK ⟨fun g => absurd g (by omega), fun _ => ?_⟩
    rw [zw_id (x := ((5 * w : Nat) : Int) + (k : Int)) (by omega) (by omega), show ((5 * w : Nat) : Int) + ((k : Nat) : Int) = ((5 * w + k : Nat) : Int) from by omega, zw_id (x := (p : Int) + (k : Int)) (by omega) (by omega), show ((p : Nat) : Int) + ((k : Nat) : Int) = ((p + k : Nat) : Int) from by omega]
    refine i233 (j := 3) (Or.inr rfl) hd (by omega) (by have e : slen 3 = 60 := by decide +kernel
                                                        rw [e]; omega) ?_
    have hsk := (hS.2.2 (p + k) (by omega)).1
    rw [hsk]
    refine ⟨⟨by omega, by omega⟩, ?_⟩
    have e : sch 3 ((5 * w + k : Nat) : Int) = wch (5 * w + k) := rfl
    rw [e]
    refine ⟨fun g => ?_, fun g => h0 (fun q => g (q k (by omega)).symm)⟩
    rw [zw_id (by omega) (by omega)]
    refine ih (k + 1) (by omega) (fun i hi => ?_)
    by_cases e : i = k
    · rw [e]; exact g.symm
    · exact hq i (by omega)
theorem i32 (hK : KR T n) (hd : 5 ≤ d) {p len w : Nat} {P : Int → Pl → Prop} (hS : tS f m s) (hw : w < 12) (hp : p + len ≤ m) (hl : ∀ k, p ≤ k → k < p + len → isLe (f ((k : Nat) : Int)) = true) (h1 : wqq f p (p + len) w → P 1 s) (h0 : ¬ wqq f p (p + len) w → P 0 s) : Ev xs L T n d 32 [rf 54, it ((5 * w : Nat) : Int), it ((p : Nat) : Int), it ((len : Nat) : Int)] s (qi P) := by
  obtain ⟨t1, t2, t3⟩ := wtab w hw
  have hm := hS.2.1
  refine e32 (by omega) (f32_0 hK ⟨fun g => h0 (fun q => ?_), fun g => ?_⟩)
  · have := q.1; omega
  · refine ⟨fun g2 => absurd g2 (by omega), fun _ => ?_⟩
    rw [zw_id (x := ((5 * w : Nat) : Int) + (len : Int)) (by omega) (by omega), show ((5 * w : Nat) : Int) + ((len : Nat) : Int) = ((5 * w + len : Nat) : Int) from by omega]
    have e60 : slen 3 = 60 := by decide +kernel
    refine i232 (j := 3) (Or.inr rfl) (by omega) ?_
    rw [e60]
    refine ⟨fun g2 => absurd g2 (by omega), fun _ => i233 (j := 3) (Or.inr rfl) (by omega) (by omega) (by rw [e60]; omega) ?_⟩
    have e : sch 3 ((5 * w + len : Nat) : Int) = wch (5 * w + len) := rfl
    rw [e]
    have t4 := t3 len (by omega)
    refine ⟨fun g2 => ?_, fun g2 => h0 (fun q => g2 (t4.mpr (by have := q.1; omega)))⟩
    have t5 := t4.mp g2
    rw [zw_id (x := ((p : Nat) : Int) + ((len : Nat) : Int)) (by omega) (by omega)]
    refine ⟨fun g3 => absurd g3 (by omega), fun _ => ⟨fun _ => ?_, fun g3 => absurd (show ((p : Nat) : Int) + ((len : Nat) : Int) ≤ 160 by omega) g3⟩⟩
    refine l32 hK (by omega) hS hw (by omega) hp (fun q => h1 ?_) (fun q => h0 (fun q2 => q (fun i hi => q2.2 i (by have := q2.1; omega)))) len 0 (by omega) (fun i hi => absurd hi (by omega))
    by_cases u : len = wsz w
    · exact ⟨by rw [u], fun i hi => q i (by omega)⟩
    · have q2 := q (wsz w) (by omega)
      have q3 := (t3 (wsz w) (by omega)).mpr (Nat.le_refl _)
      rw [q3] at q2
      have q4 := hl (p + wsz w) (by omega) (by omega)
      rw [q2] at q4
      exact absurd q4 (by decide)
theorem l31 (hK : KR T n) (hd : 5 ≤ d) {p len : Nat} {P : Int → Pl → Prop} (hS : tS f m s) (hp : p + len ≤ m) (hl : ∀ k, p ≤ k → k < p + len → isLe (f ((k : Nat) : Int)) = true) : ∀ (j k : Nat), j + k = 12 → P (wtok f p (p + len) j k) s → Fr xs L T n d 31 2 [some (rf 54), some (it ((p : Nat) : Int)), some (it ((len : Nat) : Int)), some (it ((k : Nat) : Int))] [] s (qi P) := by
  have e60 : slen 3 = 60 := by decide +kernel
  intro j
  induction j with
  | zero =>
    intro k hk h
    refine f31_2 hK (i232 (j := 3) (Or.inr rfl) (by omega) ?_)
    rw [e60, zw_id (by omega) (by omega)]
    exact ⟨fun _ => h, fun g => absurd g (by omega)⟩
  | succ j ih =>
    intro k hk h
    refine f31_2 hK (i232 (j := 3) (Or.inr rfl) (by omega) ?_)
    rw [e60, zw_id (by omega) (by omega), show ((k : Nat) : Int) * 5 = ((5 * k : Nat) : Int) from by omega]
    refine ⟨fun g => absurd g (by omega), fun _ => i32 hK hd hS (by omega) hp hl (fun q => ?_) (fun q => ?_)⟩
    · refine ⟨fun g => absurd g (by decide), fun _ => ?_⟩
      rw [show wtok f p (p + len) (j + 1) k = ((k : Nat) : Int) from if_pos q] at h
      exact h
    · refine ⟨fun _ => ?_, fun g => absurd rfl g⟩
      rw [show wtok f p (p + len) (j + 1) k = wtok f p (p + len) j (k + 1) from if_neg q] at h
      rw [zw_id (by omega) (by omega)]
      exact ih (k + 1) (by omega) h
theorem i31 (hK : KR T n) (hd : 6 ≤ d) {p len : Nat} {P : Int → Pl → Prop} (hS : tS f m s) (hp : p + len ≤ m) (hl : ∀ k, p ≤ k → k < p + len → isLe (f ((k : Nat) : Int)) = true) (h : P (wtok f p (p + len) 12 0) s) : Ev xs L T n d 31 [rf 54, it ((p : Nat) : Int), it ((len : Nat) : Int)] s (qi P) :=
  e31 (by omega) (f31_0 hK (l31 hK (by omega) hS hp hl 12 0 rfl h))
theorem l28 (hK : KR T n) (hd : 1 ≤ d) {P : Pl → Prop} (hS : tS f m s) : ∀ (j k : Nat), k + j = m → (∀ v, Fr xs L T n d 28 46 [some (rf 54), some (it v)] [] (zup s 53 4 ((rn f isBl j k : Nat) : Int)) (qv P)) → Fr xs L T n d 28 5 [some (rf 54), some (it ((k : Nat) : Int))] [] (zup s 53 4 ((k : Nat) : Int)) (qv P) := by
  intro j
  induction j with
  | zero =>
    intro k hk h
    have h1 := (hS.up (i := 4) (v := ((k : Nat) : Int)) (by decide)).1
    refine f28_5 hK ?_
    rw [h1]
    exact ⟨fun _ => h _, fun g => absurd g (by omega)⟩
  | succ j ih =>
    intro k hk h
    have hS2 := hS.up (i := 4) (v := ((k : Nat) : Int)) (by decide)
    have h1 := hS2.1
    have hm := hS.2.1
    refine f28_5 hK ?_
    rw [h1]
    unfold rn at h
    have next : isBl (f ((k : Nat) : Int)) = true → Fr xs L T n d 28 33 [some (rf 54), some (it ((k : Nat) : Int))] [] (zup s 53 4 ((k : Nat) : Int)) (qv P) := by
      intro e
      rw [if_pos e] at h
      refine f28_33 hK ?_
      rw [zw_id (by omega) (by omega), zup_zup]
      exact ih (k + 1) (by omega) h
    refine ⟨fun g => absurd g (by omega), fun _ => i27 hK hS2 (by omega) hd ⟨fun g => next ?_, fun g => i27 hK hS2 (by omega) hd ⟨fun g2 => ?_, fun g2 => next ?_⟩⟩⟩
    · simp only [isBl, decide_eq_true_eq]; exact Or.inl g
    · have e : ¬ isBl (f ((k : Nat) : Int)) = true := by
        simp only [isBl, decide_eq_true_eq]
        omega
      rw [if_neg e] at h
      exact h _
    · simp only [isBl, decide_eq_true_eq]; exact Or.inr (Decidable.not_not.mp g2)
theorem tok_end {am : Int} {p : Nat} (h : m ≤ p) : tokT f m am p = (301, am, p) := by unfold tokT; rw [if_pos h]
theorem tok_le {am : Int} {p : Nat} (h : p < m) (h1 : isLe (f ((p : Nat) : Int)) = true) : tokT f m am p = (wtok f p (rn f isLe (m - p) p) 12 0, am, rn f isLe (m - p) p) := by unfold tokT; rw [if_neg (by omega), if_pos h1]
theorem tok_w {am : Int} {p : Nat} (h : p < m) (h1 : isDg (f ((p : Nat) : Int)) = true) (h2 : p + 4 < rn f isDg (m - p) p) : tokT f m am p = (302, am, rn f isDg (m - p) p) := by
  have e : ¬ isLe (f ((p : Nat) : Int)) = true := by simp only [isLe, isDg, decide_eq_true_eq] at *; omega
  unfold tokT; rw [if_neg (by omega), if_neg e, if_pos h1, if_pos h2]
theorem tok_n {am : Int} {p : Nat} (h : p < m) (h1 : isDg (f ((p : Nat) : Int)) = true) (h2 : ¬ p + 4 < rn f isDg (m - p) p) : tokT f m am p = (300, numv f (rn f isDg (m - p) p - p) p 0, rn f isDg (m - p) p) := by
  have e : ¬ isLe (f ((p : Nat) : Int)) = true := by simp only [isLe, isDg, decide_eq_true_eq] at *; omega
  unfold tokT; rw [if_neg (by omega), if_neg e, if_pos h1, if_neg h2]
theorem tok_s {am : Int} {p : Nat} (h : p < m) (h1 : ¬ isLe (f ((p : Nat) : Int)) = true) (h2 : ¬ isDg (f ((p : Nat) : Int)) = true) : tokT f m am p = (if isSg (f ((p : Nat) : Int)) = true then f ((p : Nat) : Int) else 302, am, p + 1) := by
  unfold tokT; rw [if_neg (by omega), if_neg h1, if_neg h2]
theorem q28 (hK : KR T n) (hd : 7 ≤ d) (hS : tS f m s) {p : Nat} {v am : Int} (hp : p ≤ m) (h4 : s 53 4 = ((p : Nat) : Int)) (h6 : s 53 6 = am) {P : Pl → Prop} (h : ∀ s1, s1 53 3 = ((p : Nat) : Int) → s1 53 4 = (((tokT f m am p).2.2 : Nat) : Int) → s1 53 5 = (tokT f m am p).1 → s1 53 6 = (tokT f m am p).2.1 → (∀ c i, ¬ (c = 53 ∧ 3 ≤ i ∧ i ≤ 6) → s1 c i = s c i) → P s1) : Fr xs L T n d 28 46 [some (rf 54), some (it v)] [] s (qv P) := by
  have hm := hS.2.1
  have hS3 : tS f m (zup s 53 3 ((p : Nat) : Int)) := hS.up (by decide)
  refine f28_46 hK ?_
  have e3 : zup s 53 3 (s 53 4) 53 3 = ((p : Nat) : Int) := by rw [zg, if_pos ⟨rfl, rfl⟩, h4]
  rw [e3, h4]
  by_cases hpm : m ≤ p
  · refine i27n hK hS3 hpm (by omega) ⟨fun g => absurd g (by decide), fun _ => ?_⟩
    rw [tok_end hpm] at h
    refine h _ ?_ ?_ ?_ ?_ ?_
    · rw [zg, if_neg (by omega), zg, if_pos ⟨rfl, rfl⟩]
    · rw [zg, if_neg (by omega), zg, if_neg (by omega), h4]
    · rw [zg, if_pos ⟨rfl, rfl⟩]
    · rw [zg, if_neg (by omega), zg, if_neg (by omega), h6]
    · intro c i hc
      rw [zg, if_neg (by omega), zg, if_neg (by omega)]
  have hlt : p < m := by omega
  have hb := hS.2.2 p hlt
  refine i27 hK hS3 hlt (by omega) ⟨fun _ => ?_, fun g => absurd hb.2.1 g⟩
  have sgn : ¬ isLe (f ((p : Nat) : Int)) = true → ¬ isDg (f ((p : Nat) : Int)) = true → Fr xs L T n d 28 165 [some (rf 54), some (it (f ((p : Nat) : Int)))] [] (zup s 53 3 ((p : Nat) : Int)) (qv P) := by
    intro n1 n2
    rw [tok_s hlt n1 n2] at h
    have fin : ∀ v9, v9 = (if isSg (f ((p : Nat) : Int)) = true then f ((p : Nat) : Int) else 302) → Fr xs L T n d 28 231 [some (rf 54), some (it (f ((p : Nat) : Int)))] [it v9, rf 54] (zup (zup s 53 3 ((p : Nat) : Int)) 53 4 ((p + 1 : Nat) : Int)) (qv P) := by
      intro v9 e9
      refine f28_231 hK (h _ ?_ ?_ ?_ ?_ ?_)
      · rw [zg, if_neg (by omega), zg, if_neg (by omega), zg, if_pos ⟨rfl, rfl⟩]
      · rw [zg, if_neg (by omega), zg, if_pos ⟨rfl, rfl⟩]
      · rw [zg, if_pos ⟨rfl, rfl⟩]; exact e9
      · rw [zg, if_neg (by omega), zg, if_neg (by omega), zg, if_neg (by omega), h6]
      · intro c i hc
        rw [zg, if_neg (by omega), zg, if_neg (by omega), zg, if_neg (by omega)]
    have yes : isSg (f ((p : Nat) : Int)) = true → Fr xs L T n d 28 224 [some (rf 54), some (it (f ((p : Nat) : Int)))] [rf 54] (zup (zup s 53 3 ((p : Nat) : Int)) 53 4 ((p + 1 : Nat) : Int)) (qv P) := fun e => f28_224 hK (fin _ (by rw [if_pos e]))
    have z1 : zw (zup s 53 3 ((p : Nat) : Int) 53 3 + 1) = ((p + 1 : Nat) : Int) := by
      rw [zg, if_pos ⟨rfl, rfl⟩, zw_id (by omega) (by omega)]; omega
    refine f28_165 hK ?_
    rw [z1]
    refine ⟨fun g => yes (by simp only [isSg, decide_eq_true_eq]; omega), fun g1 => ⟨fun g => yes (by simp only [isSg, decide_eq_true_eq]; omega), fun g2 => ⟨fun g => yes (by simp only [isSg, decide_eq_true_eq]; omega), fun g3 => ⟨fun g => yes (by simp only [isSg, decide_eq_true_eq]; omega), fun g4 => ⟨fun g => yes (by simp only [isSg, decide_eq_true_eq]; omega), fun g5 => ⟨fun g => yes (by simp only [isSg, decide_eq_true_eq]; omega), fun g6 => ⟨fun g => yes (by simp only [isSg, decide_eq_true_eq]; omega), fun g7 => ⟨fun g => fin _ ?_, fun g => yes (by simp only [isSg, decide_eq_true_eq]; omega)⟩⟩⟩⟩⟩⟩⟩⟩
    rw [if_neg (by simp only [isSg, decide_eq_true_eq]; omega)]
  have e33 : zup s 53 3 ((p : Nat) : Int) 53 4 = ((p : Nat) : Int) := by rw [zg, if_neg (by omega), h4]
  have dig : ¬ isLe (f ((p : Nat) : Int)) = true → Fr xs L T n d 28 121 [some (rf 54), some (it (f ((p : Nat) : Int)))] [] (zup s 53 3 ((p : Nat) : Int)) (qv P) := by
    intro n1
    have sg2 : ¬ (48 ≤ f ((p : Nat) : Int) ∧ f ((p : Nat) : Int) ≤ 57) → _ := fun q => sgn n1 (by simp only [isDg, decide_eq_true_eq]; exact q)
    refine f28_121 hK ⟨fun g => sg2 (by omega), fun g1 => ⟨fun g => sg2 (by omega), fun g2 => ?_⟩⟩
    have y : isDg (f ((p : Nat) : Int)) = true := by simp only [isDg, decide_eq_true_eq]; omega
    have r1 := rn_gt (f := f) (j := m - p) (by omega) y
    have r2 := rn_le (f := f) (q := isDg) (m - p) p
    have r3 := rn_all (f := f) (q := isDg) (m - p) p
    refine i29 hK (by omega) hS3 (by omega) e33 ?_
    have er : rn f (inR 48 57) (m - p) p = rn f isDg (m - p) p := rfl
    rw [er]
    generalize hR : rn f isDg (m - p) p = R at *
    have q3 : zup (zup s 53 3 ((p : Nat) : Int)) 53 4 ((R : Nat) : Int) 53 3 = ((p : Nat) : Int) := by rw [zg, if_neg (by omega), zg, if_pos ⟨rfl, rfl⟩]
    have q4 : zup (zup s 53 3 ((p : Nat) : Int)) 53 4 ((R : Nat) : Int) 53 4 = ((R : Nat) : Int) := by rw [zg, if_pos ⟨rfl, rfl⟩]
    rw [q3, q4, zw_id (by omega) (by omega), show ((R : Nat) : Int) - ((p : Nat) : Int) = ((R - p : Nat) : Int) from by omega]
    refine i30 hK (by omega) (hS3.up (by decide)) (by omega) (fun k a b => r3 k a (by omega)) (fun g => ?_) (fun g => ?_)
    · rw [tok_w hlt y (by omega), hR] at h
      refine h _ ?_ ?_ ?_ ?_ ?_
      · rw [zg, if_neg (by omega), q3]
      · rw [zg, if_neg (by omega), q4]
      · rw [zg, if_pos ⟨rfl, rfl⟩]
      · rw [zg, if_neg (by omega), zg, if_neg (by omega), zg, if_neg (by omega), h6]
      · intro c i hc
        rw [zg, if_neg (by omega), zg, if_neg (by omega), zg, if_neg (by omega)]
    · rw [tok_n hlt y (by omega), hR] at h
      refine h _ ?_ ?_ ?_ ?_ ?_
      · rw [zg, if_neg (by omega), zg, if_neg (by omega), q3]
      · rw [zg, if_neg (by omega), zg, if_neg (by omega), q4]
      · rw [zg, if_pos ⟨rfl, rfl⟩]
      · rw [zg, if_neg (by omega), zg, if_pos ⟨rfl, rfl⟩]
      · intro c i hc
        rw [zg, if_neg (by omega), zg, if_neg (by omega), zg, if_neg (by omega), zg, if_neg (by omega)]
  have dg2 : ¬ (97 ≤ f ((p : Nat) : Int) ∧ f ((p : Nat) : Int) ≤ 122) → _ := fun q => dig (by simp only [isLe, decide_eq_true_eq]; exact q)
  refine ⟨fun g => dg2 (by omega), fun g1 => ⟨fun g => dg2 (by omega), fun g2 => ?_⟩⟩
  have y : isLe (f ((p : Nat) : Int)) = true := by simp only [isLe, decide_eq_true_eq]; omega
  have r1 := rn_gt (f := f) (j := m - p) (by omega) y
  have r2 := rn_le (f := f) (q := isLe) (m - p) p
  have r3 := rn_all (f := f) (q := isLe) (m - p) p
  refine i29 hK (by omega) hS3 (by omega) e33 ?_
  have er : rn f (inR 97 122) (m - p) p = rn f isLe (m - p) p := rfl
  rw [er]
  generalize hR : rn f isLe (m - p) p = R at *
  have q3 : zup (zup s 53 3 ((p : Nat) : Int)) 53 4 ((R : Nat) : Int) 53 3 = ((p : Nat) : Int) := by rw [zg, if_neg (by omega), zg, if_pos ⟨rfl, rfl⟩]
  have q4 : zup (zup s 53 3 ((p : Nat) : Int)) 53 4 ((R : Nat) : Int) 53 4 = ((R : Nat) : Int) := by rw [zg, if_pos ⟨rfl, rfl⟩]
  rw [q3, q4, zw_id (by omega) (by omega), show ((R : Nat) : Int) - ((p : Nat) : Int) = ((R - p : Nat) : Int) from by omega]
  refine i31 hK (by omega) (hS3.up (by decide)) (by omega) (fun k a b => r3 k a (by omega)) ?_
  rw [tok_le hlt y, hR] at h
  refine h _ ?_ ?_ ?_ ?_ ?_
  · rw [zg, if_neg (by omega), q3]
  · rw [zg, if_neg (by omega), q4]
  · rw [zg, if_pos ⟨rfl, rfl⟩, show p + (R - p) = R from by omega]
  · rw [zg, if_neg (by omega), zg, if_neg (by omega), zg, if_neg (by omega), h6]
  · intro c i hc
    rw [zg, if_neg (by omega), zg, if_neg (by omega), zg, if_neg (by omega)]
theorem i28 (hK : KR T n) (hd : 8 ≤ d) (hS : tS f m s) {x : TxS} (h4 : s 53 4 = ((x.nx : Nat) : Int)) (h6 : s 53 6 = x.am) (hn : x.nx ≤ m) {P : Pl → Prop} (h : ∀ s1, s1 53 3 = (((stepT f m x).p : Nat) : Int) → s1 53 4 = (((stepT f m x).nx : Nat) : Int) → s1 53 5 = (stepT f m x).tk → s1 53 6 = (stepT f m x).am → (∀ c i, ¬ (c = 53 ∧ 3 ≤ i ∧ i ≤ 6) → s1 c i = s c i) → P s1) : Ev xs L T n d 28 [rf 54] s (qv P) := by
  have sk := skp_ok (f := f) hn
  refine e28 (by omega) (f28_0 hK ?_)
  rw [h4]
  have := l28 (xs := xs) (L := L) hK (d := d - 1) (by omega) (P := P) hS (m - x.nx) x.nx (by omega) (fun v => ?_)
  · rw [zup_self h4] at this
    exact this
  · refine q28 hK (by omega) (hS.up (by decide)) (p := skp f m x.nx) (am := x.am) sk.2 (by rw [zg, if_pos ⟨rfl, rfl⟩]; rfl) (by rw [zg, if_neg (by omega), h6]) (fun s1 a1 a2 a3 a4 a5 => h s1 a1 a2 a3 a4 (fun c i hc => ?_))
    rw [a5 c i hc, zg, if_neg (by omega)]
end TOK
