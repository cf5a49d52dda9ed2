/-! the class's search, whole -/
def IN (w : Pl) (t n m x0 : Nat) (f B : Nat → Nat) (c : Nat) : Prop := B 0 = 0 ∧ (∀ j, j < c → B j ≤ B (j + 1)) ∧ (∀ j i, j < c → B j ≤ i → i < B (j + 1) → ∃ st, pth w t n m x0 st (f i) j) ∧ (∀ j i y e, j < c → B j ≤ i → i < B (j + 1) → Eg w t n m (f i) y e → j + e < c → ∃ i2, i2 < B (j + e + 1) ∧ f i2 = y) ∧ (0 < c → 0 < B 1 ∧ f 0 = x0)
def SolC (w : Pl) (t n m x0 Lm : Nat) (s : Pl) : Prop := ∃ (N C : Nat) (f B : Nat → Nat), (s 64 4 = (N : Nat) ∧ N ≤ 1440) ∧ (s 64 5 = (C : Nat) ∧ 1 ≤ C ∧ C ≤ 401) ∧ (∀ i : Nat, i < N → s 66 (i : Nat) = ((f i + 65536 * awV w n (f i) : Nat) : Int)) ∧ (B 0 = 0 ∧ B C = N ∧ (∀ j, j < C → B j ≤ B (j + 1)) ∧ ∀ j, j ≤ C → s 67 ((j : Nat) : Int) = (B j : Nat)) ∧ inj9 f N ∧ (∀ i, i < N → okx n (f i)) ∧ ∀ y k, DD w t n m x0 Lm y k ↔ k < C ∧ ∃ i, B k ≤ i ∧ i < B (k + 1) ∧ f i = y
theorem lay_ex {B : Nat → Nat} (h0 : B 0 = 0) : ∀ j i, i < B j → ∃ b, b < j ∧ B b ≤ i ∧ i < B (b + 1) := by
  intro j
  induction j with
  | zero => intro i h; rw [h0] at h; omega
  | succ j ih =>
    intro i h
    by_cases e : i < B j
    · obtain ⟨b, h1, h2⟩ := ih i e
      exact ⟨b, by omega, h2⟩
    · exact ⟨j, by omega, by omega, h⟩
theorem lay_un {B : Nat → Nat} {c a b i : Nat} (hm : ∀ j, j < c → B j ≤ B (j + 1)) (ha : a < c) (hb : b < c) (h1 : B a ≤ i) (h2 : i < B (a + 1)) (h3 : B b ≤ i) (h4 : i < B (b + 1)) : a = b := by
  have m1 := B_mono hm
  rcases Nat.lt_trichotomy a b with h | h | h
  · have := m1 (a + 1) b (by omega) (by omega); omega
  · exact h
  · have := m1 (b + 1) a (by omega) (by omega); omega
/-- the layers below c hold what costs less than c -/
theorem IN.sol {w : Pl} {t n m x0 c : Nat} {f B : Nat → Nat} (h : IN w t n m x0 f B c) (hi : inj9 f (B c)) (hc : 0 < c) (y k : Nat) : (k < c ∧ ∃ i, B k ≤ i ∧ i < B (k + 1) ∧ f i = y) ↔ DD w t n m x0 (c - 1) y k := by
  obtain ⟨h0, h1, h2, h3, h4⟩ := h
  have hmono := B_mono h1
  refine sol_iff (D := fun y k => k < c ∧ ∃ i, B k ≤ i ∧ i < B (k + 1) ∧ f i = y) ?_ ?_ ?_ ?_ y k
  · rintro y k ⟨hk, i, a1, a2, rfl⟩
    exact ⟨h2 k i hk a1 a2, by omega⟩
  · exact ⟨hc, 0, by omega, (h4 hc).1, (h4 hc).2⟩
  · rintro x a y e ⟨ha, i, a1, a2, rfl⟩ he hl
    obtain ⟨i2, b1, b2⟩ := h3 a i y e ha a1 a2 he (by omega)
    obtain ⟨b, c1, c2, c3⟩ := lay_ex h0 _ _ b1
    exact ⟨b, by omega, by omega, i2, c2, c3, b2⟩
  · rintro y a b ⟨ha, i, a1, a2, a3⟩ ⟨hb, i2, b1, b2, b3⟩
    have e : i = i2 := by
      have q1 := hmono (a + 1) c (by omega) (by omega)
      have q2 := hmono (b + 1) c (by omega) (by omega)
      rcases Nat.lt_trichotomy i i2 with h | h | h
      · exact absurd (by rw [a3, b3]) (hi i i2 h (by omega))
      · exact h
      · exact absurd (by rw [a3, b3]) (hi i2 i h (by omega))
    subst e
    exact lay_un h1 ha hb a1 a2 b1 b2
/-- nothing more behind an end of patience -/
theorem IN.done {w : Pl} {t n m x0 c Lm last pat : Nat} {f B : Nat → Nat} (h : IN w t n m x0 f B c) (hi : inj9 f (B c)) (hc : 0 < c) (hcl : c ≤ Lm + 1) (hlast : ∀ j, last < j → j < c → B j = B (j + 1)) (hpat : ∀ x y e, Eg w t n m x y e → e ≤ pat) (hend : Lm < c ∨ pat < c - last) (y k : Nat) : DD w t n m x0 Lm y k ↔ (k < c ∧ ∃ i, B k ≤ i ∧ i < B (k + 1) ∧ f i = y) := by
  have hmono := B_mono h.2.1
  refine (sol_iff (D := fun y k => k < c ∧ ∃ i, B k ≤ i ∧ i < B (k + 1) ∧ f i = y) ?_ ?_ ?_ ?_ y k).symm
  · rintro y k ⟨hk, i, a1, a2, rfl⟩
    exact ⟨h.2.2.1 k i hk a1 a2, by omega⟩
  · exact ⟨hc, 0, by have := h.1; omega, (h.2.2.2.2 hc).1, (h.2.2.2.2 hc).2⟩
  · rintro x a y e ⟨ha, i, a1, a2, rfl⟩ he hl
    have hal : a ≤ last ∨ Lm < c := by
      rcases hend with g | g
      · exact Or.inr g
      · by_cases q : a ≤ last
        · exact Or.inl q
        · have := hlast a (by omega) ha
          omega
    have hlt : a + e < c := by
      have := hpat _ _ _ he
      omega
    obtain ⟨i2, b1, b2⟩ := h.2.2.2.1 a i y e ha a1 a2 he hlt
    obtain ⟨b, c1, c2, c3⟩ := lay_ex h.1 _ _ b1
    exact ⟨b, by omega, by omega, i2, c2, c3, b2⟩
  · intro y a b ha hb
    exact ((h.sol hi hc y a).mp ha).uniq ((h.sol hi hc y b).mp hb)
theorem DD.ofpth {w : Pl} {t n m x0 c Lm : Nat} {f B : Nat → Nat} {y : Nat} (h : IN w t n m x0 f B c) (hi : inj9 f (B c)) (hp : ∃ st, pth w t n m x0 st y c) (hn : ∀ i, i < B c → f i ≠ y) (hL : c ≤ Lm) : DD w t n m x0 Lm y c := by
  refine ⟨hp, fun j a hj => ?_, hL⟩
  refine Nat.le_of_not_lt fun hlt => ?_
  have hc : 0 < c := by omega
  have all := sol_all (w := w) (t := t) (n := n) (m := m) (x0 := x0) (Lm := c - 1) (D := fun y k => DD w t n m x0 (c - 1) y k) (fun y k hd => ⟨hd.1, hd.2.2⟩) ((h.sol hi hc _ _).mp ⟨hc, 0, by have := h.1; omega, (h.2.2.2.2 hc).1, (h.2.2.2.2 hc).2⟩) (fun x a y e hd he hl => by
    obtain ⟨ha, i, a1, a2, rfl⟩ := (h.sol hi hc _ _).mpr hd
    obtain ⟨i2, b1, b2⟩ := h.2.2.2.1 a i y e ha a1 a2 he (by omega)
    obtain ⟨b, c1, c2, c3⟩ := lay_ex h.1 _ _ b1
    exact ⟨b, by omega, (h.sol hi hc _ _).mp ⟨by omega, i2, c2, c3, b2⟩⟩) j y a hj (by omega)
  obtain ⟨b, _, hd⟩ := all
  obtain ⟨hb, i, a1, a2, a3⟩ := (h.sol hi hc _ _).mpr hd
  have := B_mono h.2.1 (b + 1) c (by omega) (by omega)
  exact hn i (by omega) a3
/-- a layer in the making -/
def LYn (w : Pl) (t n m x0 : Nat) (f B : Nat → Nat) (c N k : Nat) : Prop := B c ≤ N ∧ (∀ i, B c ≤ i → i < N → ∃ st, pth w t n m x0 st (f i) c) ∧ (∀ i y, B c ≤ i → i < k → Eg w t n m (f i) y 0 → ∃ i2, i2 < N ∧ f i2 = y) ∧ (∀ j i y e, j < c → B j ≤ i → i < B (j + 1) → Eg w t n m (f i) y e → j + e = c → ∃ i2, i2 < N ∧ f i2 = y) ∧ (c = 0 → 0 < N ∧ f 0 = x0)
theorem IN.cong {w : Pl} {t n m x0 c : Nat} {f g B : Nat → Nat} (h : IN w t n m x0 f B c) (hg : ∀ i, i < B c → g i = f i) : IN w t n m x0 g B c := by
  have hmono := B_mono h.2.1
  refine ⟨h.1, h.2.1, fun j i a1 a2 a3 => ?_, fun j i y e a1 a2 a3 a4 a5 => ?_, fun hc => ?_⟩
  · rw [hg i (by have := hmono (j + 1) c (by omega) (by omega); omega)]
    exact h.2.2.1 j i a1 a2 a3
  · rw [hg i (by have := hmono (j + 1) c (by omega) (by omega); omega)] at a4
    obtain ⟨i2, b1, b2⟩ := h.2.2.2.1 j i y e a1 a2 a3 a4 a5
    exact ⟨i2, b1, by rw [hg i2 (by have := hmono (j + e + 1) c (by omega) (by omega); omega)]; exact b2⟩
  · have h4 := h.2.2.2.2 hc
    have := hmono 1 c (by omega) (by omega)
    exact ⟨h4.1, by rw [hg 0 (by omega)]; exact h4.2⟩
theorem IN.next {w : Pl} {t n m x0 c N : Nat} {f B : Nat → Nat} (h : IN w t n m x0 f B c) (l : LYn w t n m x0 f B c N N) : IN w t n m x0 f (fun j => if j = c + 1 then N else B j) (c + 1) := by
  obtain ⟨l1, l2, l3, l4, l5⟩ := l
  have e1 : ∀ j, j ≤ c → (fun j => if j = c + 1 then N else B j) j = B j := fun j hj => if_neg (by omega)
  have e2 : (fun j => if j = c + 1 then N else B j) (c + 1) = N := if_pos rfl
  refine ⟨by rw [e1 0 (by omega)]; exact h.1, fun j hj => ?_, fun j i a1 a2 a3 => ?_, fun j i y e a1 a2 a3 a4 a5 => ?_, fun _ => ?_⟩
  · by_cases e : j = c
    · subst e; rw [e1 j (by omega), e2]; exact l1
    · rw [e1 j (by omega), e1 (j + 1) (by omega)]; exact h.2.1 j (by omega)
  · by_cases e : j = c
    · subst e; rw [e1 j (by omega)] at a2; rw [e2] at a3; exact l2 i a2 a3
    · rw [e1 j (by omega)] at a2; rw [e1 (j + 1) (by omega)] at a3; exact h.2.2.1 j i (by omega) a2 a3
  · by_cases e9 : j + e = c
    · have e3 : (fun j => if j = c + 1 then N else B j) (j + e + 1) = N := by rw [e9]; exact e2
      rw [e3]
      by_cases ej : j = c
      · subst ej; rw [e1 j (by omega)] at a2; rw [e2] at a3
        have e0 : e = 0 := by omega
        subst e0
        exact l3 i y a2 a3 a4
      · rw [e1 j (by omega)] at a2; rw [e1 (j + 1) (by omega)] at a3
        exact l4 j i y e (by omega) a2 a3 a4 e9
    · rw [e1 (j + e + 1) (by omega)]
      rw [e1 j (by omega)] at a2; rw [e1 (j + 1) (by omega)] at a3
      exact h.2.2.2.1 j i y e (by omega) a2 a3 a4 (by omega)
  · by_cases e : c = 0
    · subst e; rw [e2]; exact l5 rfl
    · rw [e1 1 (by omega)]; exact h.2.2.2.2 (by omega)
theorem shl16 : ∀ a : Nat, a < 64 → zshl (a : Nat) 16 = ((65536 * a : Nat) : Int) := by decide +kernel
theorem or16 {x a : Nat} (hx : x < 65536) (ha : a < 64) : zor (x : Nat) (zshl (a : Nat) 16) = ((x + 65536 * a : Nat) : Int) := by
  rw [shl16 a ha, zor_nat (by omega) (by omega)]
  congr 1
  have := Nat.two_pow_add_eq_or_of_lt (i := 16) (b := x) (by omega) a
  rw [Nat.or_comm]
  rw [show 65536 * a = 2 ^ 16 * a from rfl, ← this]
  omega
variable {xs : Nat → Int} {L : Nat} {d : Nat} {s : Pl}
theorem i238 {T : List (Nat × Int × Int)} {n ca Na : Nat} {v : Int} {P : Pl → Prop} (hd : 1 ≤ d) (hca : zsh ca = (20, Na)) (hcn : ca < n) (hN : Na ≤ 5000) (h : ∀ s1 : Pl, (∀ i : Int, 0 ≤ i → i < Na → s1 ca i = v) → (∀ c, c ≠ ca → s1 c = s c) → P s1) : Ev xs L T n d 238 [rf (ca + 1), it v] s (qv P) := by
  have l : ∀ (j k : Nat) (s1 : Pl) (v2 : Int), k + j = Na → v2 = (k : Nat) → (∀ i : Int, 0 ≤ i → i < (k : Nat) → s1 ca i = v) → (∀ c, c ≠ ca → s1 c = s c) → Fr xs L T n (d - 1) 238 5 [some (rf (ca + 1)), some (it v), some (it v2), some (it (Na : Int))] [] s1 (qv P) := by
    intro j
    induction j with
    | zero => intro k s1 v2 hk h2 h3 h4; exact f238_5 hca hcn ⟨fun _ => h s1 (fun i a b => h3 i a (by omega)) h4, fun z => absurd (by omega) z⟩
    | succ j ih =>
      intro k s1 v2 hk h2 h3 h4
      subst h2
      refine f238_5 hca hcn ⟨fun z => absurd z (by omega), fun _ => ⟨by omega, ?_⟩⟩
      refine ih (k + 1) _ _ (by omega) (by rw [zw_id (by omega) (by omega)]; omega) (fun i a b => ?_) (fun c hc => by rw [zune _ _ _ hc]; exact h4 c hc)
      rw [zg]
      by_cases e : i = (k : Nat)
      · rw [if_pos ⟨rfl, e⟩]
      · rw [if_neg (fun q => e q.2)]; exact h3 i a (by omega)
  exact e238 hd (f238_0 hca hcn (l Na 0 s _ (by omega) rfl (fun i a b => absurd b (by omega)) (fun _ _ => rfl)))
theorem i50 {w : Pl} {t n : Nat} {P : Int → Pl → Prop} (hd : 2 ≤ d) (hl : Lrn w t n s) (h : ∀ r : Nat, 1 ≤ r → r ≤ 99 → (∀ u v, u < 4 → v < 4 → u ≠ v → rowV w t u v ≤ (r : Nat)) → P (r : Nat) s) : Ev xs L T0 106 d 50 [rf 58] s (qi P) := by
  have hv : ∀ k : Nat, k < 16 → s 59 ((k : Nat) : Int) = if k / 4 = k % 4 then 0 else rowV w t (k / 4) (k % 4) := by
    intro k hk
    have h1 := hl.2.2.1 (k / 4) (k % 4) (by omega) (by omega)
    rw [← h1]
    congr 1
    omega
  have l : ∀ (j k : Nat) (r : Nat) (v1 v2 : Int), k + j = 16 → v2 = (k : Nat) → v1 = (r : Nat) → 1 ≤ r → r ≤ 99 → (∀ i, i < k → i / 4 ≠ i % 4 → rowV w t (i / 4) (i % 4) ≤ (r : Nat)) → Fr xs L T0 106 (d - 1) 50 4 [some (rf 58), some (it v1), some (it v2)] [] s (qi P) := by
    intro j
    induction j with
    | zero =>
      intro k r v1 v2 hk h2 h1 h3 h4 h5
      refine f50_4 ⟨fun _ => ?_, fun z => absurd (by omega) z⟩
      rw [h1]
      refine h r h3 h4 fun u v hu hv huv => ?_
      have := h5 (4 * u + v) (by omega) (by omega)
      rw [show (4 * u + v) / 4 = u from by omega, show (4 * u + v) % 4 = v from by omega] at this
      exact this
    | succ j ih =>
      intro k r v1 v2 hk h2 h1 h3 h4 h5
      subst h2
      subst h1
      refine f50_4 ⟨fun z => absurd z (by omega), fun _ => ⟨by omega, i230 (by omega) ?_⟩⟩
      rw [hv k (by omega)]
      have hz : zw ((k : Nat) + 1) = ((k + 1 : Nat) : Int) := by rw [zw_id (by omega) (by omega)]; omega
      rw [hz]
      have hr := rowV_rng w t (k / 4) (k % 4)
      by_cases e : k / 4 = k % 4
      · rw [if_pos e, if_neg (by omega)]
        refine ih (k + 1) r _ _ (by omega) rfl rfl h3 h4 fun i hi hne => ?_
        by_cases e2 : i = k
        · subst e2; exact absurd e hne
        · exact h5 i (by omega) hne
      · rw [if_neg e]
        by_cases g : ((r : Nat) : Int) < rowV w t (k / 4) (k % 4)
        · rw [if_pos g]
          refine ih (k + 1) (rowV w t (k / 4) (k % 4)).toNat _ _ (by omega) rfl (by omega) (by omega) (by omega) fun i hi hne => ?_
          by_cases e2 : i = k
          · subst e2; omega
          · have := h5 i (by omega) hne; omega
        · rw [if_neg g]
          refine ih (k + 1) r _ _ (by omega) rfl rfl h3 h4 fun i hi hne => ?_
          by_cases e2 : i = k
          · subst e2; omega
          · exact h5 i (by omega) hne
  exact e50 (by omega) (f50_0 (l 16 0 1 _ _ rfl rfl rfl (by decide) (by decide) (fun i hi => absurd hi (by omega))))
