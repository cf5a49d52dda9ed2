/-! ways on, the least by which one comes to a state -/
def egw (w : Pl) (t m u l : Nat) : Int := if m = 0 then rowV w t u l else if m = 2 then 1 else 0
def Eg (w : Pl) (t n m x y e : Nat) : Prop := (∃ l, l < 4 ∧ l ≠ bt x ∧ y = rwd x l ∧ ((e : Nat) : Int) = egw w t m (bt x) l) ∨ (∃ p q, swp w t n x p q ∧ y = swd x p q ∧ e = if m = 1 then 1 else 0)
def pth (w : Pl) (t n m x0 : Nat) : Nat → Nat → Nat → Prop
  | 0, y, k => y = x0 ∧ k = 0
  | j + 1, y, k => ∃ x a e, pth w t n m x0 j x a ∧ Eg w t n m x y e ∧ k = a + e
def DD (w : Pl) (t n m x0 Lm y k : Nat) : Prop := (∃ j, pth w t n m x0 j y k) ∧ (∀ j a, pth w t n m x0 j y a → k ≤ a) ∧ k ≤ Lm
theorem DD.uniq {w : Pl} {t n m x0 L1 L2 y a b : Nat} (h1 : DD w t n m x0 L1 y a) (h2 : DD w t n m x0 L2 y b) : a = b := by
  obtain ⟨⟨j1, p1⟩, m1, _⟩ := h1
  obtain ⟨⟨j2, p2⟩, m2, _⟩ := h2
  have := m1 _ _ p2
  have := m2 _ _ p1
  omega
theorem DD.lim {w : Pl} {t n m x0 L1 L2 y k : Nat} (h1 : DD w t n m x0 L1 y k) (h : k ≤ L2) : DD w t n m x0 L2 y k := ⟨h1.1, h1.2.1, h⟩
theorem rowV_rng (w : Pl) (t u v : Nat) : 1 ≤ rowV w t u v ∧ rowV w t u v ≤ 99 := by
  unfold rowV held9
  split <;> (try split) <;> omega
theorem egw_rng (w : Pl) (t m u v : Nat) : 0 ≤ egw w t m u v ∧ egw w t m u v ≤ 99 := by
  have := rowV_rng w t u v
  unfold egw
  split <;> (try split) <;> omega
theorem Eg.ok {w : Pl} {t n m x y e : Nat} (h : Eg w t n m x y e) (hx : okx n x) : okx n y := by
  rcases h with ⟨l, h1, _, rfl, _⟩ | ⟨p, q, h1, rfl, _⟩
  · exact rwd_ok hx h1
  · exact swd_ok hx h1.1.1 h1.1.2
theorem pth_ok {w : Pl} {t n m x0 : Nat} (h0 : okx n x0) : ∀ j y k, pth w t n m x0 j y k → okx n y := by
  intro j
  induction j with
  | zero => intro y k h; rw [h.1]; exact h0
  | succ j ih =>
    rintro y k ⟨x, a, e, h1, h2, _⟩
    exact h2.ok (ih x a h1)
/-- what holds of the states found is all that there is -/
theorem sol_all {w : Pl} {t n m x0 Lm : Nat} {D : Nat → Nat → Prop} (hc : ∀ y k, D y k → (∃ j, pth w t n m x0 j y k) ∧ k ≤ Lm) (ha : D x0 0) (hb : ∀ x a y e, D x a → Eg w t n m x y e → a + e ≤ Lm → ∃ b, b ≤ a + e ∧ D y b) : ∀ j y a, pth w t n m x0 j y a → a ≤ Lm → ∃ b, b ≤ a ∧ D y b := by
  intro j
  induction j with
  | zero =>
    rintro y a ⟨rfl, rfl⟩ _
    exact ⟨0, Nat.le_refl _, ha⟩
  | succ j ih =>
    rintro y a ⟨x, a1, e, h1, h2, rfl⟩ hl
    obtain ⟨b, hb1, hb2⟩ := ih x a1 h1 (by omega)
    obtain ⟨b2, h3, h4⟩ := hb x b y e hb2 h2 (by omega)
    exact ⟨b2, by omega, h4⟩
theorem sol_iff {w : Pl} {t n m x0 Lm : Nat} {D : Nat → Nat → Prop} (hc : ∀ y k, D y k → (∃ j, pth w t n m x0 j y k) ∧ k ≤ Lm) (ha : D x0 0) (hb : ∀ x a y e, D x a → Eg w t n m x y e → a + e ≤ Lm → ∃ b, b ≤ a + e ∧ D y b) (hu : ∀ y a b, D y a → D y b → a = b) (y k : Nat) : D y k ↔ DD w t n m x0 Lm y k := by
  have all := sol_all hc ha hb
  constructor
  · intro h
    obtain ⟨h1, h2⟩ := hc y k h
    refine ⟨h1, fun j a hp => ?_, h2⟩
    by_cases hl : a ≤ Lm
    · obtain ⟨b, h3, h4⟩ := all j y a hp hl
      rw [hu y k b h h4]
      exact h3
    · omega
  · rintro ⟨⟨j, hp⟩, hm, hl⟩
    obtain ⟨b, h3, h4⟩ := all j y k hp hl
    obtain ⟨⟨j2, hp2⟩, _⟩ := hc y b h4
    have := hm j2 b hp2
    rw [show k = b from by omega]
    exact h4
/-- the least with something -/
def lst (w : Pl) (t n m x0 Lm : Nat) (Q : Nat → Prop) (r : Int) : Prop := (r = -1 ∧ ∀ y k, DD w t n m x0 Lm y k → ¬ Q y) ∨ ∃ k : Nat, r = (k : Nat) ∧ (∃ y, DD w t n m x0 Lm y k ∧ Q y) ∧ ∀ y j, DD w t n m x0 Lm y j → Q y → k ≤ j
theorem lst.uniq {w : Pl} {t n m x0 Lm : Nat} {Q Q2 : Nat → Prop} {a b : Int} (hQ : ∀ y k, DD w t n m x0 Lm y k → (Q y ↔ Q2 y)) (h1 : lst w t n m x0 Lm Q a) (h2 : lst w t n m x0 Lm Q2 b) : a = b := by
  rcases h1 with ⟨rfl, h1⟩ | ⟨k, rfl, ⟨y, h1, h2a⟩, h3⟩
  · rcases h2 with ⟨rfl, _⟩ | ⟨k2, rfl, ⟨y, g1, g2⟩, _⟩
    · rfl
    · exact absurd ((hQ y k2 g1).mpr g2) (h1 y k2 g1)
  · rcases h2 with ⟨rfl, g1⟩ | ⟨k2, rfl, ⟨y2, g1, g2⟩, g3⟩
    · exact absurd ((hQ y k h1).mp h2a) (g1 y k h1)
    · have a1 := h3 y2 k2 g1 ((hQ _ _ g1).mpr g2)
      have a2 := g3 y k h1 ((hQ _ _ h1).mp h2a)
      omega
/-! how many states there may be -/
def dg (y r : Nat) : Nat := y / 5 ^ r % 5
theorem pl_dg (x r : Nat) : pl x r = dg (x / 4) r := by
  unfold pl dg
  rw [Nat.div_div_eq_div_mul]
def dcv (y l : Nat) : Nat := cnt (fun r => decide (dg y r = l)) 6
theorem cnt_shift (f : Nat → Bool) (k : Nat) : cnt f (k + 1) = (if f 0 = true then 1 else 0) + cnt (fun r => f (r + 1)) k := by
  induction k with
  | zero => simp [cnt]
  | succ k ih =>
    rw [cnt, ih]
    simp only [cnt]
    omega
def pms : Nat → Nat → Nat → Nat → Nat → Nat → List Nat
  | 0, _, _, _, _, _ => [0]
  | n + 1, a, b, c, e, f => (if 0 < a then (pms n (a - 1) b c e f).map (fun y => 5 * y) else []) ++ ((if 0 < b then (pms n a (b - 1) c e f).map (fun y => 5 * y + 1) else []) ++ ((if 0 < c then (pms n a b (c - 1) e f).map (fun y => 5 * y + 2) else []) ++ ((if 0 < e then (pms n a b c (e - 1) f).map (fun y => 5 * y + 3) else []) ++ (if 0 < f then (pms n a b c e (f - 1)).map (fun y => 5 * y + 4) else []))))
def pml : Nat → Nat → Nat → Nat → Nat → Nat → Nat
  | 0, _, _, _, _, _ => 1
  | n + 1, a, b, c, e, f => (if 0 < a then pml n (a - 1) b c e f else 0) + ((if 0 < b then pml n a (b - 1) c e f else 0) + ((if 0 < c then pml n a b (c - 1) e f else 0) + ((if 0 < e then pml n a b c (e - 1) f else 0) + (if 0 < f then pml n a b c e (f - 1) else 0))))
theorem pms_len : ∀ n a b c e f, (pms n a b c e f).length = pml n a b c e f := by
  intro n
  induction n with
  | zero => intro a b c e f; rfl
  | succ n ih =>
    intro a b c e f
    simp only [pms, pml, List.length_append]
    have h : ∀ (q : Prop) [Decidable q] (l : List Nat), (if q then l else []).length = if q then l.length else 0 := fun q _ l => by split <;> rfl
    simp only [h, List.length_map, ih]
theorem pml_all : ((List.range 7).all fun a => (List.range 7).all fun b => (List.range 7).all fun c => (List.range 7).all fun e => if a + b + c + e ≤ 6 then decide (pml 6 a b c e (6 - (a + b + c + e)) ≤ 360) else true) = true := by decide +kernel
theorem pml_le : ∀ a, a < 7 → ∀ b, b < 7 → ∀ c, c < 7 → ∀ e, e < 7 → ∀ f, f < 7 → a + b + c + e + f = 6 → pml 6 a b c e f ≤ 360 := by
  intro a ha b hb c hc e he f hf hs
  have h1 := List.all_eq_true.mp pml_all a (List.mem_range.mpr ha)
  have h2 := List.all_eq_true.mp h1 b (List.mem_range.mpr hb)
  have h3 := List.all_eq_true.mp h2 c (List.mem_range.mpr hc)
  have h4 := List.all_eq_true.mp h3 e (List.mem_range.mpr he)
  rw [if_pos (by omega)] at h4
  have h5 := of_decide_eq_true h4
  rw [show 6 - (a + b + c + e) = f from by omega] at h5
  exact h5
theorem dg_succ (y r : Nat) : dg y (r + 1) = dg (y / 5) r := by
  unfold dg
  rw [Nat.div_div_eq_div_mul, Nat.pow_succ, Nat.mul_comm]
theorem pms_mem : ∀ n y a b c e f, y < 5 ^ n → cnt (fun r => decide (dg y r = 0)) n = a → cnt (fun r => decide (dg y r = 1)) n = b → cnt (fun r => decide (dg y r = 2)) n = c → cnt (fun r => decide (dg y r = 3)) n = e → cnt (fun r => decide (dg y r = 4)) n = f → y ∈ pms n a b c e f := by
  intro n
  induction n with
  | zero =>
    intro y a b c e f hy _ _ _ _ _
    simp [pms]
    simpa using hy
  | succ n ih =>
    intro y a b c e f hy h0 h1 h2 h3 h4
    rw [cnt_shift] at h0 h1 h2 h3 h4
    simp only [dg_succ] at h0 h1 h2 h3 h4
    have hy5 : y / 5 < 5 ^ n := by rw [Nat.pow_succ] at hy; omega
    have hd0 : dg y 0 = y % 5 := by simp [dg]
    rw [hd0] at h0 h1 h2 h3 h4
    have hc : y % 5 = 0 ∨ y % 5 = 1 ∨ y % 5 = 2 ∨ y % 5 = 3 ∨ y % 5 = 4 := by omega
    simp only [pms, List.mem_append]
    rcases hc with e0 | e0 | e0 | e0 | e0
    · rw [e0] at h0 h1 h2 h3 h4
      simp at h0 h1 h2 h3 h4
      refine Or.inl ?_
      rw [if_pos (by omega), List.mem_map]
      exact ⟨y / 5, ih _ _ _ _ _ _ hy5 (by omega) h1 h2 h3 h4, by omega⟩
    · rw [e0] at h0 h1 h2 h3 h4
      simp at h0 h1 h2 h3 h4
      refine Or.inr (Or.inl ?_)
      rw [if_pos (by omega), List.mem_map]
      exact ⟨y / 5, ih _ _ _ _ _ _ hy5 h0 (by omega) h2 h3 h4, by omega⟩
    · rw [e0] at h0 h1 h2 h3 h4
      simp at h0 h1 h2 h3 h4
      refine Or.inr (Or.inr (Or.inl ?_))
      rw [if_pos (by omega), List.mem_map]
      exact ⟨y / 5, ih _ _ _ _ _ _ hy5 h0 h1 (by omega) h3 h4, by omega⟩
    · rw [e0] at h0 h1 h2 h3 h4
      simp at h0 h1 h2 h3 h4
      refine Or.inr (Or.inr (Or.inr (Or.inl ?_)))
      rw [if_pos (by omega), List.mem_map]
      exact ⟨y / 5, ih _ _ _ _ _ _ hy5 h0 h1 h2 (by omega) h4, by omega⟩
    · rw [e0] at h0 h1 h2 h3 h4
      simp at h0 h1 h2 h3 h4
      refine Or.inr (Or.inr (Or.inr (Or.inr ?_)))
      rw [if_pos (by omega), List.mem_map]
      exact ⟨y / 5, ih _ _ _ _ _ _ hy5 h0 h1 h2 h3 (by omega), by omega⟩
def cvx (x l : Nat) : Nat := cnt (fun r => decide (pl x r = l)) 6
theorem cvx_dg (x l : Nat) : cvx x l = cnt (fun r => decide (dg (x / 4) r = l)) 6 := cnt_cong fun r _ => by rw [pl_dg]
theorem cv_sum (x : Nat) : cvx x 0 + cvx x 1 + cvx x 2 + cvx x 3 + cvx x 4 = 6 := by
  have h : ∀ k, cnt (fun r => decide (pl x r = 0)) k + cnt (fun r => decide (pl x r = 1)) k + cnt (fun r => decide (pl x r = 2)) k + cnt (fun r => decide (pl x r = 3)) k + cnt (fun r => decide (pl x r = 4)) k = k := by
    intro k
    induction k with
    | zero => rfl
    | succ k ih =>
      simp only [cnt]
      have := pl_lt x k
      have hc : pl x k = 0 ∨ pl x k = 1 ∨ pl x k = 2 ∨ pl x k = 3 ∨ pl x k = 4 := by omega
      rcases hc with e | e | e | e | e <;> simp [e] <;> omega
  exact h 6
theorem cnt_upd {f g : Nat → Bool} {k p : Nat} (hp : p < k) (h : ∀ r, r < k → r ≠ p → f r = g r) : cnt f k + (if g p = true then 1 else 0) = cnt g k + (if f p = true then 1 else 0) := by
  induction k with
  | zero => omega
  | succ k ih =>
    simp only [cnt]
    by_cases e : p = k
    · subst e
      rw [cnt_cong (fun r hr => h r (by omega) (by omega))]
      omega
    · have := ih (by omega) (fun r hr => h r (by omega))
      rw [h k (by omega) (fun z => e z.symm)]
      omega
theorem cv_swd {x p q l : Nat} (hp : p < 6) (hq : q < 6) (h4 : pl x p = 4) (hb : pl x q = bt x) : cvx (swd x p q) l = cvx x l := by
  have hbl := bt_lt x
  have hpq : p ≠ q := fun e => by rw [e] at h4; omega
  have e1 : cvx (swd x p q) l = cnt (fun r => decide (swf x p q r = l)) 6 := cnt_cong fun r hr => by rw [swd_pl hr]
  have h1 := cnt_upd (f := fun r => decide (swf x p q r = l)) (g := fun r => decide ((if r = q then pl x q else swf x p q r) = l)) hq (fun r hr hne => by simp [hne])
  have h2 := cnt_upd (f := fun r => decide ((if r = q then pl x q else swf x p q r) = l)) (g := fun r => decide (pl x r = l)) hp (fun r hr hne => by
    by_cases e : r = q
    · subst e; simp
    · simp [e, swf, hne])
  rw [e1]
  unfold cvx
  have a1 : swf x p q q = 4 := by simp [swf]
  have a2 : swf x p q p = bt x := by simp [swf, hpq]
  simp only [if_pos, a1, if_neg hpq, a2, h4, hb, decide_eq_true_eq] at h1 h2
  omega
theorem cv_rwd {x l0 l : Nat} (hl : l0 < 4) : cvx (rwd x l0) l = cvx x l := cnt_cong fun r hr => by rw [rwd_pl hl hr]
theorem Eg.cv {w : Pl} {t n m x y e l : Nat} (hn : n ≤ 6) (h : Eg w t n m x y e) : cvx y l = cvx x l := by
  rcases h with ⟨l0, h1, _, rfl, _⟩ | ⟨p, q, h1, rfl, _⟩
  · exact cv_rwd h1
  · exact cv_swd (by have := h1.1.1; omega) (by have := h1.1.2; omega) h1.2.1.1 h1.2.1.2
theorem pth_cv {w : Pl} {t n m x0 l : Nat} (hn : n ≤ 6) : ∀ j y k, pth w t n m x0 j y k → cvx y l = cvx x0 l := by
  intro j
  induction j with
  | zero => intro y k h; rw [h.1]
  | succ j ih =>
    rintro y k ⟨x, a, e, h1, h2, _⟩
    rw [h2.cv hn, ih x a h1]
def lsf (f : Nat → Nat) : Nat → List Nat
  | 0 => []
  | k + 1 => f k :: lsf f k
theorem lsf_mem {f : Nat → Nat} {k y : Nat} : y ∈ lsf f k ↔ ∃ i, i < k ∧ f i = y := by
  induction k with
  | zero => simp [lsf]
  | succ k ih =>
    simp only [lsf, List.mem_cons, ih]
    constructor
    · rintro (rfl | ⟨i, h1, h2⟩)
      · exact ⟨k, by omega, rfl⟩
      · exact ⟨i, by omega, h2⟩
    · rintro ⟨i, h1, h2⟩
      by_cases e : i = k
      · subst e; exact Or.inl h2.symm
      · exact Or.inr ⟨i, by omega, h2⟩
theorem lsf_len (f : Nat → Nat) (k : Nat) : (lsf f k).length = k := by
  induction k with
  | zero => rfl
  | succ k ih => simp [lsf, ih]
def inj9 (f : Nat → Nat) (N : Nat) : Prop := ∀ i j, i < j → j < N → f i ≠ f j
theorem lsf_nodup {f : Nat → Nat} {k : Nat} (h : inj9 f k) : (lsf f k).Nodup := by
  induction k with
  | zero => exact List.nodup_nil
  | succ k ih =>
    simp only [lsf]
    refine List.nodup_cons.mpr ⟨fun hm => ?_, ih fun i j a b => h i j a (by omega)⟩
    obtain ⟨i, h1, h2⟩ := lsf_mem.mp hm
    exact h i k h1 (by omega) h2
theorem same_len {f g : Nat → Nat} {N M : Nat} (hf : inj9 f N) (hg : inj9 g M) (h : ∀ y, (∃ i, i < N ∧ f i = y) ↔ ∃ i, i < M ∧ g i = y) : N = M := by
  have h1 := (lsf_nodup hf).length_le_of_subset (l₂ := lsf g M) (fun y hy => lsf_mem.mpr ((h y).mp (lsf_mem.mp hy)))
  have h2 := (lsf_nodup hg).length_le_of_subset (l₂ := lsf f N) (fun y hy => lsf_mem.mpr ((h y).mpr (lsf_mem.mp hy)))
  rw [lsf_len, lsf_len] at h1 h2
  omega
theorem pth_bound {w : Pl} {t n m x0 N : Nat} {f : Nat → Nat} (hn : n ≤ 6) (h0 : okx n x0) (hi : inj9 f N) (hp : ∀ i, i < N → ∃ j k, pth w t n m x0 j (f i) k) : N ≤ 1440 := by
  have hs := cv_sum x0
  have hl := pml_le (cvx x0 0) (by omega) (cvx x0 1) (by omega) (cvx x0 2) (by omega) (cvx x0 3) (by omega) (cvx x0 4) (by omega) hs
  rw [← pms_len] at hl
  have h1 := (lsf_nodup hi).length_le_of_subset (l₂ := (pms 6 (cvx x0 0) (cvx x0 1) (cvx x0 2) (cvx x0 3) (cvx x0 4)).flatMap fun y => [4 * y, 4 * y + 1, 4 * y + 2, 4 * y + 3]) (fun y hy => by
    obtain ⟨i, h1, rfl⟩ := lsf_mem.mp hy
    obtain ⟨j, k, hjk⟩ := hp i h1
    have ok := pth_ok h0 j _ k hjk
    rw [List.mem_flatMap]
    refine ⟨f i / 4, pms_mem 6 _ _ _ _ _ _ ?_ ?_ ?_ ?_ ?_ ?_, ?_⟩
    · have := ok.1; show f i / 4 < 15625; omega
    · rw [← cvx_dg, pth_cv hn j _ k hjk]
    · rw [← cvx_dg, pth_cv hn j _ k hjk]
    · rw [← cvx_dg, pth_cv hn j _ k hjk]
    · rw [← cvx_dg, pth_cv hn j _ k hjk]
    · rw [← cvx_dg, pth_cv hn j _ k hjk]
    · simp; omega)
  rw [lsf_len] at h1
  have h2 : ∀ l : List Nat, (l.flatMap fun y => [4 * y, 4 * y + 1, 4 * y + 2, 4 * y + 3]).length = 4 * l.length := by
    intro l
    induction l with
    | nil => rfl
    | cons a l ih => rw [List.flatMap_cons, List.length_append, ih]; simp; omega
  rw [h2] at h1
  omega
