/-! the lake as the class's cells tell it, what a swap is in it -/
def stc (c : Nat) : Bool := (decide (1 ≤ c) && decide (c ≤ 9)) || (decide (22 ≤ c) && decide (c ≤ 43) && (decide (c % 4 = 2) || decide (c % 4 = 3)))
def sW (w s : Pl) : Prop := ∀ c, stc c = true → s c = w c
theorem stc22 : ∀ t, t < 6 → stc (22 + 4 * t) = true ∧ stc (23 + 4 * t) = true := by decide
def wOk (w : Pl) (t n : Nat) : Prop := (w 1 1 = (n : Nat) ∧ n ≤ 6) ∧ (t < 6 ∧ gd (w (22 + 4 * t)) (w (23 + 4 * t))) ∧ (∀ p : Nat, p < n → (0 ≤ w 3 p ∧ w 3 p ≤ 5) ∧ (0 ≤ w 4 p ∧ w 4 p < 4) ∧ (0 ≤ w 6 p ∧ w 6 p ≤ 99) ∧ (0 ≤ w 7 p ∧ w 7 p < 6) ∧ 0 ≤ w 8 p ∧ w 8 p < 64) ∧ ∀ i : Int, 0 ≤ i → i < 16 → 0 ≤ w 9 i ∧ w 9 i ≤ 9
def mayV (w : Pl) (t p q l : Nat) : Bool := decide (¬ lawV (w (22 + 4 * t)) (w (23 + 4 * t)) (nm6 p q l 0 0 0) 0 = 0)
def rowV (w : Pl) (t u v : Nat) : Int := held9 (lawV (w (22 + 4 * t)) (w (23 + 4 * t)) (nm6 u v 0 (w 9 (4 * u + v)) 0 0) 1) 1 99
def gainV (w : Pl) (t p : Nat) (hr : Int) : Int := held9 (lawV (w (22 + 4 * t)) (w (23 + 4 * t)) (nm6 p 0 (w 4 p) (w 6 p) hr (w 5 p)) 2) 0 999
def foV (w : Pl) (q r : Nat) : Bool := (w 8 q).toNat.testBit r
def leaveV (w : Pl) (n x p q : Nat) : Prop := ¬ w 3 p = 4 ∧ (w 3 p = 1 → ¬ w 4 p = (bt x : Nat) → ∃ r, r < n ∧ r ≠ q ∧ pl x r = bt x)
def boardV (w : Pl) (n x p q : Nat) : Prop := (∀ r, r < n → pl x r = 4 → r ≠ p → foV w q r = false) ∧ (w 3 q = 5 → ∃ r, r < n ∧ pl x r = 4 ∧ r ≠ p ∧ ((r : Nat) : Int) = w 7 q)
def standV (w : Pl) (n : Nat) (f : Nat → Bool) : Prop := cnt f n = 1 → ∀ r, r < n → f r = true → uA (w 3 r) 2 = false
def swp (w : Pl) (t n x p q : Nat) : Prop := (p < n ∧ q < n) ∧ (pl x p = 4 ∧ pl x q = bt x) ∧ mayV w t p q (bt x) = true ∧ leaveV w n x p q ∧ boardV w n x p q ∧ standV w n (fun r => decide (pl (swd x p q) r = bt x))
def Lrn (w : Pl) (t n : Nat) (s : Pl) : Prop := s 57 1 = ((21 + 4 * t + 1 : Nat) : Int) ∧ (s 57 6 = (btn (fun p => uA (w 3 p) 1) n : Nat) ∧ s 57 7 = (btn (fun p => uA (w 3 p) 2) n : Nat) ∧ s 57 8 = (btn (fun p => uA (w 3 p) 3) n : Nat) ∧ s 57 9 = (btn (fun p => uA (w 3 p) 4) n : Nat) ∧ s 57 10 = (btn (fun p => uA (w 3 p) 5) n : Nat)) ∧ (∀ u v : Nat, u < 4 → v < 4 → s 59 (4 * u + v) = if u = v then 0 else rowV w t u v) ∧ ∀ p q : Nat, p < n → q < n → s 61 (6 * p + q) = if p = q then 0 else ((btn (fun l => mayV w t p q l) 4 : Nat) : Int)
def lkk (w : Pl) (n x : Nat) (s : Pl) : Prop := s 57 11 = (bt x : Nat) ∧ s 57 12 = (btn (fun r => decide (pl x r = 4)) n : Nat) ∧ s 57 13 = (btn (fun r => decide (pl x r = bt x)) n : Nat) ∧ s 57 14 = (btn (fun r => decide (((pl x r : Nat) : Int) = w 4 r)) n : Nat)
def fLk (s s1 : Pl) : Prop := ∀ c i, (c = 57 → i < 11 ∨ 14 < i) → s1 c i = s c i
theorem uA1 (k : Int) : uA k 1 = decide (k = 1) := by unfold uA; rw [decide_eq_decide]; omega
theorem uA2 (k : Int) : uA k 2 = decide (k = 2 ∨ k = 5) := by unfold uA; rw [decide_eq_decide]; omega
theorem uA3 (k : Int) : uA k 3 = decide (k = 3 ∨ k = 4) := by unfold uA; rw [decide_eq_decide]; omega
theorem uA4 (k : Int) : uA k 4 = decide (k = 4) := by unfold uA; rw [decide_eq_decide]; omega
theorem uA5 (k : Int) : uA k 5 = decide (k = 5) := by unfold uA; rw [decide_eq_decide]; omega
theorem tbn {f : Nat → Bool} {n p : Nat} (hn : n ≤ 6) (hp : p < 6) : zand (zshr (btn f n : Nat) (p : Nat)) 1 = if (decide (p < n) && f p) = true then 1 else 0 := by
  rw [zshr_bit p hp _ (btn_lt64 f hn), btn_bit]
theorem btn_zero {f : Nat → Bool} {n : Nat} : btn f n = 0 ↔ ∀ r, r < n → f r = false := by
  constructor
  · intro h r hr
    have := btn_bit f n r
    rw [h] at this
    simp [hr] at this
    exact this
  · intro h
    rw [btn_cong (g := fun _ => false) (fun p hp => h p hp)]
    clear h
    induction n with
    | zero => rfl
    | succ n ih => simp [btn, ih]
theorem clr_btn {f : Nat → Bool} {n k : Nat} (hn : n ≤ 6) (hk : k < 6) : zand (btn f n : Nat) (zxor (zshl 1 (k : Nat)) (-1)) = (btn (fun r => f r && decide (r ≠ k)) n : Nat) := by
  rw [zclr k hk _ (btn_lt64 f hn)]
  have h := clr_bitL k hk _ (btn_lt64 f hn)
  congr 1
  refine btn_eq hn h.1 fun p hp => ?_
  rw [h.2 p hp, btn_bit, Bool.and_assoc]
theorem or_btn {f : Nat → Bool} {n k : Nat} (hn : n ≤ 6) (hk : k < n) : zor (btn f n : Nat) (zshl 1 (k : Nat)) = (btn (fun r => f r || decide (r = k)) n : Nat) := by
  have h2 : 2 ^ k < 64 := by
    have : 2 ^ k < 2 ^ 6 := Nat.pow_lt_pow_right (by decide) (by omega)
    omega
  rw [zshl_bit k (by omega), zor_nn _ (btn_lt64 f hn) _ h2]
  congr 1
  refine btn_eq hn (Nat.or_lt_two_pow (n := 6) (btn_lt64 f hn) h2) fun p hp => ?_
  rw [Nat.testBit_or, btn_bit, Nat.testBit_two_pow]
  by_cases hpk : k = p
  · subst hpk; simp [hk]
  · have : ¬ p = k := fun e => hpk e.symm
    simp [hpk, this]
variable {xs : Nat → Int} {L : Nat} {d : Nat} {s : Pl}
theorem l42 {w : Pl} {n x : Nat} {P : Pl → Prop} (hw1 : w 1 1 = (n : Nat)) (hn : n ≤ 6) (hx : x < 62500) (s0 : Pl) (hw : sW w s0) (h : ∀ s1 : Pl, lkk w n x s1 → fLk s0 s1 → P s1) : ∀ (j k : Nat) (s : Pl) (v1 v2 v3 : Int) (w4 : Option AV), k + j = n → v2 = ((x / (4 * 5 ^ k) : Nat) : Int) → v3 = (k : Nat) → lkk w k x s → fLk s0 s → Fr xs L T0 106 d 42 28 [some (rf 58), some (it v1), some (it v2), some (it v3), w4] [] s (qv P) := by
  intro j
  induction j with
  | zero =>
    intro k s v1 v2 v3 w4 hk h2 h3 hl hf
    have e : k = n := by omega
    subst e
    refine f42_28 ⟨fun _ => h s hl hf, fun h9 => absurd ?_ h9⟩
    rw [hf 1 1 (by decide), hw 1 rfl]; omega
  | succ j ih =>
    intro k s v1 v2 v3 w4 hk h2 h3 hl hf
    have hlt : x / (4 * 5 ^ k) < 2147483648 := Nat.lt_of_le_of_lt (Nat.div_le_self _ _) (by omega)
    have e5 : zrem v2 5 = (pl x k : Nat) := by rw [h2, show (5 : Int) = ((5 : Nat) : Int) from rfl, zrem_nat hlt (by decide) (by decide)]; rfl
    have ed : zdiv v2 5 = ((x / (4 * 5 ^ (k + 1)) : Nat) : Int) := by
      rw [h2, show (5 : Int) = ((5 : Nat) : Int) from rfl, zdiv_nat hlt (by decide) (by decide), Nat.div_div_eq_div_mul, Nat.pow_succ, Nat.mul_assoc]
    have e11 : s 1 1 = (n : Nat) := by rw [hf 1 1 (by decide), hw 1 rfl]; exact hw1
    have hpl := pl_lt x k
    have hbt := bt_lt x
    have z3 : zw (v3 + 1) = ((k + 1 : Nat) : Int) := by rw [zw_id (by omega) (by omega)]; omega
    have step : ∀ (s2 : Pl) (f12 f13 : Nat), s2 57 11 = (bt x : Nat) → s2 57 12 = (btn (fun r => decide (pl x r = 4)) (k + 1) : Nat) → s2 57 13 = (btn (fun r => decide (pl x r = bt x)) (k + 1) : Nat) → s2 57 14 = (btn (fun r => decide (((pl x r : Nat) : Int) = w 4 r)) k : Nat) → fLk s0 s2 → Fr xs L T0 106 d 42 96 [some (rf 58), some (it v1), some (it (zdiv v2 5)), some (it v3), some (it (zrem v2 5))] [] s2 (qv P) := by
      intro s2 _ _ a11 a12 a13 a14 hf2
      have e4 : s2 4 v3 = w 4 (k : Nat) := by rw [hf2 4 _ (fun e => absurd e (by decide)), hw 4 rfl, h3]
      refine f42_96 ⟨by omega, fun h9 => f42_122 ?_, fun h9 => f42_122 ?_⟩
      · rw [z3]
        refine ih (k + 1) s2 v1 _ _ _ (by omega) ed rfl ⟨a11, a12, a13, ?_⟩ hf2
        rw [a14]
        simp only [btn]
        rw [e4, e5] at h9
        simp [h9]
      · rw [z3]
        refine ih (k + 1) _ v1 _ _ _ (by omega) ed rfl ⟨?_, ?_, ?_, ?_⟩ ?_
        · rw [zg, if_neg (by decide)]; exact a11
        · rw [zg, if_neg (by decide)]; exact a12
        · rw [zg, if_neg (by decide)]; exact a13
        · rw [zg, if_pos ⟨rfl, rfl⟩, a14, h3, zor_bitL k (by omega) _ (btn_lt _ k)]
          simp only [btn]
          rw [e4, e5] at h9
          simp [Classical.not_not.mp h9]
        · intro c i hc
          rw [zg, if_neg (fun e => by have := hc e.1; omega)]
          exact hf2 c i hc
    obtain ⟨a11, a12, a13, a14⟩ := hl
    refine f42_28 ⟨fun h9 => absurd h9 (by omega), fun _ => ⟨fun h9 => absurd h9 (by omega), fun _ => ⟨fun h9 => ⟨fun h8 => ?_, fun h8 => ?_⟩, fun h9 => ?_⟩⟩⟩
    · rw [e5] at h9
      rw [e5, a11] at h8
      refine step s 0 0 a11 ?_ ?_ a14 hf
      · rw [a12]; simp only [btn]; rw [if_neg (by simp; omega)]; rfl
      · rw [a13]; simp only [btn]; rw [if_neg (by simp; omega)]; rfl
    · rw [e5] at h9
      have h8 := Classical.not_not.mp h8
      rw [e5, a11] at h8
      refine step _ 0 0 ?_ ?_ ?_ ?_ ?_
      · rw [zg, if_neg (by decide)]; exact a11
      · rw [zg, if_neg (by decide), a12]; simp only [btn]; rw [if_neg (by simp; omega)]; rfl
      · rw [zg, if_pos ⟨rfl, rfl⟩, a13, h3, zor_bitL k (by omega) _ (btn_lt _ k)]
        simp only [btn]
        rw [if_pos (by simp; omega)]
      · rw [zg, if_neg (by decide)]; exact a14
      · intro c i hc
        rw [zg, if_neg (fun e => by have := hc e.1; omega)]
        exact hf c i hc
    · have h9 := Classical.not_not.mp h9
      rw [e5] at h9
      refine step _ 0 0 ?_ ?_ ?_ ?_ ?_
      · rw [zg, if_neg (by decide)]; exact a11
      · rw [zg, if_pos ⟨rfl, rfl⟩, a12, h3, zor_bitL k (by omega) _ (btn_lt _ k)]
        simp only [btn]
        rw [if_pos (by simp; omega)]
      · rw [zg, if_neg (by decide), a13]; simp only [btn]; rw [if_neg (by simp; omega)]; rfl
      · rw [zg, if_neg (by decide)]; exact a14
      · intro c i hc
        rw [zg, if_neg (fun e => by have := hc e.1; omega)]
        exact hf c i hc
theorem i42 {w : Pl} {n x : Nat} {P : Pl → Prop} (hd : 1 ≤ d) (hw1 : w 1 1 = (n : Nat)) (hn : n ≤ 6) (hx : x < 62500) (hw : sW w s) (h : ∀ s1 : Pl, lkk w n x s1 → fLk s s1 → P s1) : Ev xs L T0 106 d 42 [rf 58, it (x : Nat)] s (qv P) := by
  refine e42 hd (f42_0 ?_)
  refine l42 hw1 hn hx s hw h n 0 _ _ _ _ _ (by omega) ?_ rfl ⟨?_, ?_, ?_, ?_⟩ ?_
  · rw [show (2 : Int) = ((2 : Nat) : Int) from rfl, zshr_nat (by omega) (by decide)]
  · rw [zg, if_neg (by decide), zg, if_neg (by decide), zg, if_neg (by decide), zg, if_pos ⟨rfl, rfl⟩, zand3 (by omega)]; rfl
  · rw [zg, if_neg (by decide), zg, if_neg (by decide), zg, if_pos ⟨rfl, rfl⟩]; rfl
  · rw [zg, if_neg (by decide), zg, if_pos ⟨rfl, rfl⟩]; rfl
  · rw [zg, if_pos ⟨rfl, rfl⟩]; rfl
  · intro c i hc
    rw [zg, if_neg (fun e => by have := hc e.1; omega), zg, if_neg (fun e => by have := hc e.1; omega), zg, if_neg (fun e => by have := hc e.1; omega), zg, if_neg (fun e => by have := hc e.1; omega)]
theorem i48 {w : Pl} {t n : Nat} {f : Nat → Bool} {P : Int → Pl → Prop} (hd : 2 ≤ d) (hn : n ≤ 6) (hl : Lrn w t n s) (h1 : standV w n f → P 1 s) (h0 : ¬ standV w n f → P 0 s) : Ev xs L T0 106 d 48 [rf 58, it (btn f n : Nat)] s (qi P) := by
  have key : zand (btn f n : Nat) (btn (fun p => uA (w 3 p) 2) n : Nat) = 0 ↔ ∀ r, r < n → f r = true → uA (w 3 r) 2 = false := by
    rw [zand_dis (btn_lt64 _ hn) (btn_lt64 _ hn)]
    constructor
    · intro h r hr hf
      have := h r (by omega) (by rw [btn_bit]; simp [hr, hf])
      rw [btn_bit] at this
      simpa [hr] using this
    · intro h p hp hb
      rw [btn_bit] at hb ⊢
      simp at hb
      simp [h p hb.1 hb.2]
  refine e48 (by omega) (f48_0 ?_)
  rw [hl.2.1.2.1]
  refine ⟨fun h => f48_17 (h1 fun _ => key.mp h), fun h => i228 (btn_lt64 _ hn) (by omega) ⟨fun h2 => h0 fun hs => ?_, fun h2 => f48_17 (h1 fun hc => ?_)⟩⟩
  · rw [pop_btn f hn] at h2
    refine h (key.mpr fun r hr hf => ?_)
    by_cases hc : cnt f n = 1
    · exact hs hc r hr hf
    · have : cnt f n = 0 := by omega
      have hb : ∀ m, m ≤ n → cnt f m = 0 → ∀ r, r < m → f r = false := by
        intro m
        induction m with
        | zero => intro _ _ r hr; omega
        | succ m ih =>
          intro hm hc r hr
          simp only [cnt] at hc
          by_cases hf : f m = true
          · rw [if_pos hf] at hc; omega
          · by_cases e : r = m
            · subst e; simpa using hf
            · exact ih (by omega) (by rw [if_neg hf] at hc; omega) r (by omega)
      rw [hb n (Nat.le_refl _) this r hr] at hf
      cases hf
  · rw [pop_btn f hn] at h2
    omega
