/-! the class's reader: a token -/
theorem zup_zup (s : Pl) (k : Nat) (i a b : Int) : zup (zup s k i a) k i b = zup s k i b := by
  funext c j
  rw [zg, zg, zg]
  by_cases h : c = k ∧ j = i
  · rw [if_pos h, if_pos h]
  · rw [if_neg h, if_neg h, if_neg h]
theorem zup_self {s : Pl} {k : Nat} {i a : Int} (h : s k i = a) : zup s k i a = s := by
  funext c j
  rw [zg]
  by_cases e : c = k ∧ j = i
  · rw [if_pos e, e.1, e.2, h]
  · rw [if_neg e]
def tS (f : Int → Int) (m : Nat) (s : Pl) : Prop := s 53 1 = ((m : Nat) : Int) ∧ m ≤ 160 ∧ ∀ i : Nat, i < m → s 54 ((i : Nat) : Int) = f ((i : Nat) : Int) ∧ 0 ≤ f ((i : Nat) : Int) ∧ f ((i : Nat) : Int) ≤ 255
theorem tS.cong {f : Int → Int} {m : Nat} {s s1 : Pl} (h : tS f m s) (k : s1 53 1 = s 53 1) (k2 : s1 54 = s 54) : tS f m s1 := by
  unfold tS
  rw [k, k2]
  exact h
theorem tS.up {f : Int → Int} {m : Nat} {s : Pl} (h : tS f m s) {i v : Int} (hi : i ≠ 1) : tS f m (zup s 53 i v) := h.cong (by rw [zg, if_neg (by omega)]) (by rw [zune _ _ _ (by decide)])
def cod (k a : Int) : Int := if k = 300 then 1000 + a else if k = 301 then 300 else if k = 302 then 301 else k
theorem cod_s {k a : Int} (h : k < 300) : cod k a = k := by
  unfold cod
  rw [if_neg (by omega), if_neg (by omega), if_neg (by omega)]
theorem cod_n (a : Int) : cod 300 a = 1000 + a := by
  unfold cod
  rw [if_pos rfl]
theorem cod_e (a : Int) : cod 301 a = 300 := by
  unfold cod
  rw [if_neg (by decide), if_pos rfl]
theorem cod_x (a : Int) : cod 302 a = 301 := by
  unfold cod
  rw [if_neg (by decide), if_neg (by decide), if_pos rfl]
theorem cod_am {k : Int} (a b : Int) (h : k ≠ 300) : cod k a = cod k b := by
  unfold cod
  rw [if_neg h, if_neg h]
theorem cod_eq {k a c : Int} (h0 : 0 ≤ k ∧ k ≤ 302) (h1 : k = 300 → 0 ≤ a) (hc : 0 ≤ c ∧ c < 300) : cod k a = c ↔ k = c := by
  unfold cod
  by_cases e : k = 300
  · rw [if_pos e]
    have := h1 e
    omega
  · rw [if_neg e]
    by_cases e1 : k = 301
    · rw [if_pos e1]; omega
    · rw [if_neg e1]
      by_cases e2 : k = 302
      · rw [if_pos e2]; omega
      · rw [if_neg e2]
theorem cod_end {k a : Int} (h0 : 0 ≤ k ∧ k ≤ 302) (h1 : k = 300 → 0 ≤ a) : cod k a = 300 ↔ k = 301 := by
  unfold cod
  by_cases e : k = 300
  · rw [if_pos e]
    have := h1 e
    omega
  · rw [if_neg e]
    by_cases e1 : k = 301
    · rw [if_pos e1]; omega
    · rw [if_neg e1]
      by_cases e2 : k = 302
      · rw [if_pos e2]; omega
      · rw [if_neg e2]; omega
theorem cod_num {k a : Int} (h0 : 0 ≤ k ∧ k ≤ 302) (h1 : k = 300 → 0 ≤ a) : (1000 ≤ cod k a ↔ k = 300) ∧ (cod k a < 6 ↔ k < 6) ∧ (cod k a < 1000 ↔ k ≠ 300) := by
  unfold cod
  by_cases e : k = 300
  · rw [if_pos e]
    have := h1 e
    omega
  · rw [if_neg e]
    by_cases e1 : k = 301
    · rw [if_pos e1]; omega
    · rw [if_neg e1]
      by_cases e2 : k = 302
      · rw [if_pos e2]; omega
      · rw [if_neg e2]; omega
theorem wtab : ∀ k, k < 12 → wsz k ≤ 4 ∧ 1 ≤ wsz k ∧ ∀ i, i < 5 → (wch (5 * k + i) = 32 ↔ wsz k ≤ i) := by decide +kernel
section TOK
variable {xs : Nat → Int} {L : Nat} {T : List (Nat × Int × Int)} {n d : Nat} {s : Pl} {f : Int → Int} {m : Nat}
theorem i27 (hK : KR T n) (hS : tS f m s) {k : Nat} (hk : k < m) {P : Int → Pl → Prop} (hd : 1 ≤ d) (h : P (f ((k : Nat) : Int)) s) : Ev xs L T n d 27 [rf 54, it ((k : Nat) : Int)] s (qi P) := by
  obtain ⟨h1, h2, h3⟩ := hS
  refine e27 hd (f27_0 hK ?_)
  rw [h1, (h3 k hk).1]
  exact ⟨fun g => absurd g (by omega), fun _ => ⟨fun g => absurd g (by omega), fun _ => ⟨fun g => absurd g (by omega), fun _ => ⟨by omega, h⟩⟩⟩⟩
theorem i27n (hK : KR T n) (hS : tS f m s) {k : Nat} (hk : m ≤ k) {P : Int → Pl → Prop} (hd : 1 ≤ d) (h : P (-1) s) : Ev xs L T n d 27 [rf 54, it ((k : Nat) : Int)] s (qi P) := by
  obtain ⟨h1, h2, h3⟩ := hS
  refine e27 hd (f27_0 hK ?_)
  rw [h1]
  exact ⟨fun _ => h, fun _ => ⟨fun _ => h, fun g => absurd g (by omega)⟩⟩
def wqq (f : Int → Int) (p e k : Nat) : Prop := e = p + wsz k ∧ ∀ i, i < wsz k → f ((p + i : Nat) : Int) = wch (5 * k + i)
theorem l32 (hK : KR T n) (hd : 4 ≤ d) {p len w : Nat} {P : Int → Pl → Prop} (hS : tS f m s) (hw : w < 12) (hl : len ≤ 4) (hp : p + len ≤ m) (h1 : (∀ i, i < len → f ((p + i : Nat) : Int) = wch (5 * w + i)) → P 1 s) (h0 : ¬ (∀ i, i < len → f ((p + i : Nat) : Int) = wch (5 * w + i)) → P 0 s) : ∀ (j k : Nat), k + j = len → (∀ i, i < k → f ((p + i : Nat) : Int) = wch (5 * w + i)) → Fr xs L T n d 32 55 [some (rf 54), some (it ((5 * w : Nat) : Int)), some (it ((p : Nat) : Int)), some (it ((len : Nat) : Int)), some (it ((k : Nat) : Int))] [] s (qi P) := by
  intro j
  induction j with
  | zero =>
    intro k hk hq
    exact f32_55 hK ⟨fun _ => h1 (fun i hi => hq i (by omega)), fun g => absurd g (by omega)⟩
  | succ j ih =>
    intro k hk hq
    have hm := hS.2.1
    refine f32_55 hK ⟨fun g => absurd g (by omega), fun _ => ?_⟩
    rw [zw_id (x := ((5 * w : Nat) : Int) + (k : Int)) (by omega) (by omega), show ((5 * w : Nat) : Int) + ((k : Nat) : Int) = ((5 * w + k : Nat) : Int) from by omega, zw_id (x := (p : Int) + (k : Int)) (by omega) (by omega), show ((p : Nat) : Int) + ((k : Nat) : Int) = ((p + k : Nat) : Int) from by omega]
    refine i233 (j := 3) (Or.inr rfl) hd (by omega) (by have e : slen 3 = 60 := by decide +kernel
                                                        rw [e]; omega) ?_
    have hsk := (hS.2.2 (p + k) (by omega)).1
    rw [hsk]
    refine ⟨⟨by omega, by omega⟩, ?_⟩
    have e : sch 3 ((5 * w + k : Nat) : Int) = wch (5 * w + k) := rfl
    rw [e]
    refine ⟨fun g => ?_, fun g => h0 (fun q => g (q k (by omega)).symm)⟩
    rw [zw_id (by omega) (by omega)]
    refine ih (k + 1) (by omega) (fun i hi => ?_)
    by_cases e : i = k
    · rw [e]; exact g.symm
    · exact hq i (by omega)
theorem i32 (hK : KR T n) (hd : 5 ≤ d) {p len w : Nat} {P : Int → Pl → Prop} (hS : tS f m s) (hw : w < 12) (hp : p + len ≤ m) (hl : ∀ k, p ≤ k → k < p + len → isLe (f ((k : Nat) : Int)) = true) (h1 : wqq f p (p + len) w → P 1 s) (h0 : ¬ wqq f p (p + len) w → P 0 s) : Ev xs L T n d 32 [rf 54, it ((5 * w : Nat) : Int), it ((p : Nat) : Int), it ((len : Nat) : Int)] s (qi P) := by
  obtain ⟨t1, t2, t3⟩ := wtab w hw
  have hm := hS.2.1
  refine e32 (by omega) (f32_0 hK ⟨fun g => h0 (fun q => ?_), fun g => ?_⟩)
  · have := q.1; omega
  · refine ⟨fun g2 => absurd g2 (by omega), fun _ => ?_⟩
    rw [zw_id (x := ((5 * w : Nat) : Int) + (len : Int)) (by omega) (by omega), show ((5 * w : Nat) : Int) + ((len : Nat) : Int) = ((5 * w + len : Nat) : Int) from by omega]
    have e60 : slen 3 = 60 := by decide +kernel
    refine i232 (j := 3) (Or.inr rfl) (by omega) ?_
    rw [e60]
    refine ⟨fun g2 => absurd g2 (by omega), fun _ => i233 (j := 3) (Or.inr rfl) (by omega) (by omega) (by rw [e60]; omega) ?_⟩
    have e : sch 3 ((5 * w + len : Nat) : Int) = wch (5 * w + len) := rfl
    rw [e]
    have t4 := t3 len (by omega)
    refine ⟨fun g2 => ?_, fun g2 => h0 (fun q => g2 (t4.mpr (by have := q.1; omega)))⟩
    have t5 := t4.mp g2
    rw [zw_id (x := ((p : Nat) : Int) + ((len : Nat) : Int)) (by omega) (by omega)]
    refine ⟨fun g3 => absurd g3 (by omega), fun _ => ⟨fun _ => ?_, fun g3 => absurd (show ((p : Nat) : Int) + ((len : Nat) : Int) ≤ 160 by omega) g3⟩⟩
    refine l32 hK (by omega) hS hw (by omega) hp (fun q => h1 ?_) (fun q => h0 (fun q2 => q (fun i hi => q2.2 i (by have := q2.1; omega)))) len 0 (by omega) (fun i hi => absurd hi (by omega))
    by_cases u : len = wsz w
    · exact ⟨by rw [u], fun i hi => q i (by omega)⟩
    · have q2 := q (wsz w) (by omega)
      have q3 := (t3 (wsz w) (by omega)).mpr (Nat.le_refl _)
      rw [q3] at q2
      have q4 := hl (p + wsz w) (by omega) (by omega)
      rw [q2] at q4
      exact absurd q4 (by decide)
theorem l30 (hK : KR T n) (hd : 1 ≤ d) {p len : Nat} {P : Int → Pl → Prop} (hS : tS f m s) (hl : len ≤ 4) (hp : p + len ≤ m) (hg : ∀ k, p ≤ k → k < p + len → isDg (f ((k : Nat) : Int)) = true) : ∀ (j k : Nat) (a : Int), k + j = len → 0 ≤ a → a ≤ 9999 → (j = 0 ∨ j = 1 ∧ a ≤ 999 ∨ j = 2 ∧ a ≤ 99 ∨ j = 3 ∧ a ≤ 9 ∨ j = 4 ∧ a = 0) → P (1000 + numv f j (p + k) a) s → Fr xs L T n d 30 14 [some (rf 54), some (it ((p : Nat) : Int)), some (it ((len : Nat) : Int)), some (it a), some (it ((k : Nat) : Int))] [] s (qi P) := by
  intro j
  induction j with
  | zero =>
    intro k a hk h0 h9 _ h
    refine f30_14 hK ⟨fun _ => ?_, fun g => absurd g (by omega)⟩
    rw [zw_id (by omega) (by omega)]
    exact h
  | succ j ih =>
    intro k a hk h0 h9 hb h
    have hm := hS.2.1
    have g := hg (p + k) (by omega) (by omega)
    simp only [isDg, decide_eq_true_eq] at g
    refine f30_14 hK ⟨fun g => absurd g (by omega), fun _ => ?_⟩
    rw [zw_id (x := (p : Int) + (k : Int)) (by omega) (by omega), show ((p : Nat) : Int) + ((k : Nat) : Int) = ((p + k : Nat) : Int) from by omega]
    refine i27 hK hS (by omega) hd ?_
    rw [zw_id (x := 10 * a) (by omega) (by omega), zw_id (x := 10 * a + f ((p + k : Nat) : Int)) (by omega) (by omega), zw_id (x := 10 * a + f ((p + k : Nat) : Int) - 48) (by omega) (by omega), zw_id (x := ((k : Nat) : Int) + 1) (by omega) (by omega)]
    refine ih (k + 1) _ (by omega) (by omega) (by omega) (by omega) ?_
    exact h
theorem i30 (hK : KR T n) (hd : 2 ≤ d) {p len : Nat} {P : Int → Pl → Prop} (hS : tS f m s) (hp : p + len ≤ m) (hg : ∀ k, p ≤ k → k < p + len → isDg (f ((k : Nat) : Int)) = true) (h1 : 4 < len → P 301 s) (h2 : len ≤ 4 → P (1000 + numv f len p 0) s) : Ev xs L T n d 30 [rf 54, it ((p : Nat) : Int), it ((len : Nat) : Int)] s (qi P) := by
  refine e30 (by omega) (f30_0 hK ⟨fun g => ?_, fun g => h1 (by omega)⟩)
  exact l30 hK (by omega) hS (by omega) hp hg len 0 0 (by omega) (by decide) (by decide) (by omega) (h2 (by omega))
theorem l31 (hK : KR T n) (hd : 5 ≤ d) {p len : Nat} {P : Int → Pl → Prop} (hS : tS f m s) (hp : p + len ≤ m) (hl : ∀ k, p ≤ k → k < p + len → isLe (f ((k : Nat) : Int)) = true) : ∀ (j k : Nat), j + k = 12 → P (cod (wtok f p (p + len) j k) 0) s → Fr xs L T n d 31 2 [some (rf 54), some (it ((p : Nat) : Int)), some (it ((len : Nat) : Int)), some (it ((k : Nat) : Int))] [] s (qi P) := by
  have e60 : slen 3 = 60 := by decide +kernel
  intro j
  induction j with
  | zero =>
    intro k hk h
    refine f31_2 hK (i232 (j := 3) (Or.inr rfl) (by omega) ?_)
    rw [e60, zw_id (by omega) (by omega)]
    rw [show wtok f p (p + len) 0 k = 302 from rfl, cod_x] at h
    exact ⟨fun _ => h, fun g => absurd g (by omega)⟩
  | succ j ih =>
    intro k hk h
    refine f31_2 hK (i232 (j := 3) (Or.inr rfl) (by omega) ?_)
    rw [e60, zw_id (by omega) (by omega), show ((k : Nat) : Int) * 5 = ((5 * k : Nat) : Int) from by omega]
    refine ⟨fun g => absurd g (by omega), fun _ => i32 hK hd hS (by omega) hp hl (fun q => ?_) (fun q => ?_)⟩
    · refine ⟨fun g => absurd g (by decide), fun _ => ?_⟩
      rw [show wtok f p (p + len) (j + 1) k = ((k : Nat) : Int) from if_pos q, cod_s (by omega)] at h
      exact h
    · refine ⟨fun _ => ?_, fun g => absurd rfl g⟩
      rw [show wtok f p (p + len) (j + 1) k = wtok f p (p + len) j (k + 1) from if_neg q] at h
      rw [zw_id (by omega) (by omega)]
      exact ih (k + 1) (by omega) h
theorem i31 (hK : KR T n) (hd : 6 ≤ d) {p len : Nat} {P : Int → Pl → Prop} (hS : tS f m s) (hp : p + len ≤ m) (hl : ∀ k, p ≤ k → k < p + len → isLe (f ((k : Nat) : Int)) = true) (h : P (cod (wtok f p (p + len) 12 0) 0) s) : Ev xs L T n d 31 [rf 54, it ((p : Nat) : Int), it ((len : Nat) : Int)] s (qi P) :=
  e31 (by omega) (f31_0 hK (l31 hK (by omega) hS hp hl 12 0 rfl h))
theorem tok_end {am : Int} {p : Nat} (h : m ≤ p) : tokT f m am p = (301, am, p) := by unfold tokT; rw [if_pos h]
theorem tok_le {am : Int} {p : Nat} (h : p < m) (h1 : isLe (f ((p : Nat) : Int)) = true) : tokT f m am p = (wtok f p (rn f isLe (m - p) p) 12 0, am, rn f isLe (m - p) p) := by unfold tokT; rw [if_neg (by omega), if_pos h1]
theorem tok_w {am : Int} {p : Nat} (h : p < m) (h1 : isDg (f ((p : Nat) : Int)) = true) (h2 : p + 4 < rn f isDg (m - p) p) : tokT f m am p = (302, am, rn f isDg (m - p) p) := by
  have e : ¬ isLe (f ((p : Nat) : Int)) = true := by simp only [isLe, isDg, decide_eq_true_eq] at *; omega
  unfold tokT; rw [if_neg (by omega), if_neg e, if_pos h1, if_pos h2]
theorem tok_n {am : Int} {p : Nat} (h : p < m) (h1 : isDg (f ((p : Nat) : Int)) = true) (h2 : ¬ p + 4 < rn f isDg (m - p) p) : tokT f m am p = (300, numv f (rn f isDg (m - p) p - p) p 0, rn f isDg (m - p) p) := by
  have e : ¬ isLe (f ((p : Nat) : Int)) = true := by simp only [isLe, isDg, decide_eq_true_eq] at *; omega
  unfold tokT; rw [if_neg (by omega), if_neg e, if_pos h1, if_neg h2]
theorem tok_s {am : Int} {p : Nat} (h : p < m) (h1 : ¬ isLe (f ((p : Nat) : Int)) = true) (h2 : ¬ isDg (f ((p : Nat) : Int)) = true) : tokT f m am p = (if isSg (f ((p : Nat) : Int)) = true then f ((p : Nat) : Int) else 302, am, p + 1) := by
  unfold tokT; rw [if_neg (by omega), if_neg h1, if_neg h2]
theorem i241 (hK : KR T n) {v : Int} {P : Int → Pl → Prop} (hd : 1 ≤ d) (h1 : isLe v = true → P 1 s) (h0 : ¬ isLe v = true → P 0 s) : Ev xs L T n d 241 [it v] s (qi P) := by
  simp only [isLe, decide_eq_true_eq] at h1 h0
  exact e241 hd (f241_0 hK ⟨fun g => h0 (by omega), fun g => ⟨fun g2 => h0 (by omega), fun g2 => h1 (by omega)⟩⟩)
theorem i242 (hK : KR T n) {v : Int} {P : Int → Pl → Prop} (hd : 1 ≤ d) (h1 : isDg v = true → P 1 s) (h0 : ¬ isDg v = true → P 0 s) : Ev xs L T n d 242 [it v] s (qi P) := by
  simp only [isDg, decide_eq_true_eq] at h1 h0
  exact e242 hd (f242_0 hK ⟨fun g => h0 (by omega), fun g => ⟨fun g2 => h0 (by omega), fun g2 => h1 (by omega)⟩⟩)
def eQ (wl nu : Int) (b : Int) : Bool := (decide (¬ wl = 0) && isLe b) || (decide (¬ nu = 0) && isDg b)
theorem eQ_le : eQ 1 0 = isLe := by
  funext b
  simp [eQ]
theorem eQ_dg : eQ 0 1 = isDg := by
  funext b
  simp [eQ]
theorem rn_no (f : Int → Int) : ∀ j i, rn f (eQ 0 0) j i = i
  | 0, i => rfl
  | j + 1, i => by
    unfold rn
    rw [if_neg (by simp [eQ])]
theorem l243 (hK : KR T n) (hd : 2 ≤ d) {wl nu v1 : Int} {P : Int → Pl → Prop} (hS : tS f m s) : ∀ (j k : Nat), k + j = m → P ((rn f (eQ wl nu) j k : Nat) : Int) s → Fr xs L T n d 243 23 [some (rf 54), some (it v1), some (it wl), some (it nu), some (it ((k : Nat) : Int))] [] s (qi P) := by
  intro j
  induction j with
  | zero =>
    intro k hk h
    refine f243_23 hK ?_
    rw [hS.1]
    exact ⟨fun _ => h, fun g => absurd g (by omega)⟩
  | succ j ih =>
    intro k hk h
    have hm := hS.2.1
    unfold rn at h
    have next : eQ wl nu (f ((k : Nat) : Int)) = true → Fr xs L T n d 243 64 [some (rf 54), some (it v1), some (it wl), some (it nu), some (it ((k : Nat) : Int))] [] s (qi P) := by
      intro e
      rw [if_pos e] at h
      refine f243_64 hK ?_
      rw [zw_id (by omega) (by omega)]
      exact ih (k + 1) (by omega) h
    have stop : ¬ eQ wl nu (f ((k : Nat) : Int)) = true → P ((k : Nat) : Int) s := by
      intro e
      rw [if_neg e] at h
      exact h
    have no : (wl = 0 ∨ ¬ isLe (f ((k : Nat) : Int)) = true) → Fr xs L T n d 243 48 [some (rf 54), some (it v1), some (it wl), some (it nu), some (it ((k : Nat) : Int))] [] s (qi P) := by
      intro q
      have q2 : (decide (¬ wl = 0) && isLe (f ((k : Nat) : Int))) = false := by
        rcases q with q | q
        · simp [q]
        · simp [q]
      refine f243_48 hK ⟨fun n0 => stop (by unfold eQ; rw [q2]; simp [n0]), fun n0 => i27 hK hS (by omega) (by omega) (i242 hK (by omega) (fun y => ⟨fun g => absurd g (by decide), fun _ => next (by unfold eQ; simp [n0, y])⟩) (fun y => ⟨fun _ => stop (by unfold eQ; rw [q2]; simp [y]), fun g => absurd rfl g⟩))⟩
    refine f243_23 hK ?_
    rw [hS.1]
    exact ⟨fun g => absurd g (by omega), fun _ => ⟨fun w0 => no (Or.inl w0), fun w0 => i27 hK hS (by omega) (by omega) (i241 hK (by omega) (fun y => ⟨fun _ => next (by unfold eQ; simp [w0, y]), fun g => absurd (show ¬ (1 : Int) = 0 by decide) g⟩) (fun y => ⟨fun g => absurd rfl g, fun _ => no (Or.inr y)⟩))⟩⟩
theorem rn_first {q : Int → Bool} {p : Nat} (hp : p < m) (h : q (f ((p : Nat) : Int)) = true) : rn f q (m - p) p = rn f q (m - (p + 1)) (p + 1) := by
  obtain ⟨j, hj⟩ : ∃ j, m - p = j + 1 := ⟨m - p - 1, by omega⟩
  rw [hj, show m - (p + 1) = j from by omega]
  show (if q (f ((p : Nat) : Int)) = true then rn f q j (p + 1) else p) = _
  rw [if_pos h]
theorem le_dg {b : Int} (h : isLe b = true) : ¬ isDg b = true := by
  simp only [isLe, isDg, decide_eq_true_eq] at *
  omega
theorem i243 (hK : KR T n) (hd : 3 ≤ d) (hS : tS f m s) {p : Nat} (hp : p < m) {P : Int → Pl → Prop} (h : P (((tokT f m 0 p).2.2 : Nat) : Int) s) : Ev xs L T n d 243 [rf 54, it ((p : Nat) : Int)] s (qi P) := by
  have hm := hS.2.1
  refine e243 (by omega) (f243_0 hK ?_)
  rw [zw_id (by omega) (by omega)]
  refine i27 hK hS hp (by omega) (i241 hK (by omega) (fun y => ?_) (fun y => ?_))
  · refine i27 hK hS hp (by omega) (i242 hK (by omega) (fun z => absurd z (le_dg y)) (fun z => ?_))
    refine l243 hK (by omega) hS (m - (p + 1)) (p + 1) (by omega) ?_
    rw [eQ_le, ← rn_first hp y]
    rw [tok_le hp y] at h
    exact h
  · refine i27 hK hS hp (by omega) (i242 hK (by omega) (fun z => ?_) (fun z => ?_))
    · refine l243 hK (by omega) hS (m - (p + 1)) (p + 1) (by omega) ?_
      rw [eQ_dg, ← rn_first hp z]
      by_cases u : p + 4 < rn f isDg (m - p) p
      · rw [tok_w hp z u] at h; exact h
      · rw [tok_n hp z u] at h; exact h
    · refine l243 hK (by omega) hS (m - (p + 1)) (p + 1) (by omega) ?_
      rw [rn_no]
      rw [tok_s hp y z] at h
      exact h
theorem i244 (hK : KR T n) (hd : 7 ≤ d) (hS : tS f m s) {p len : Nat} (hp : p < m) (hl : p + len = (tokT f m 0 p).2.2) {P : Int → Pl → Prop} (h : P (cod (tokT f m 0 p).1 (tokT f m 0 p).2.1) s) : Ev xs L T n d 244 [rf 54, it ((p : Nat) : Int), it ((len : Nat) : Int)] s (qi P) := by
  have hm := hS.2.1
  refine e244 (by omega) (f244_0 hK ?_)
  refine i27 hK hS hp (by omega) (i241 hK (by omega) (fun y => ⟨fun g => absurd g (by decide), fun _ => ?_⟩) (fun y => ⟨fun _ => ?_, fun g => absurd rfl g⟩))
  · have r2 := rn_le (f := f) (q := isLe) (m - p) p
    have r3 := rn_all (f := f) (q := isLe) (m - p) p
    rw [tok_le hp y] at h hl
    dsimp only at h hl
    rw [← hl] at h r2 r3
    exact i31 hK (by omega) hS (by omega) (fun k a b => r3 k a (by omega)) h
  · refine i242 hK (by omega) (fun z => ⟨fun g => absurd g (by decide), fun _ => ?_⟩) (fun z => ⟨fun _ => ?_, fun g => absurd rfl g⟩)
    · have r2 := rn_le (f := f) (q := isDg) (m - p) p
      have r3 := rn_all (f := f) (q := isDg) (m - p) p
      by_cases u : p + 4 < rn f isDg (m - p) p
      · rw [tok_w hp z u] at h hl
        dsimp only at h hl
        rw [cod_x] at h
        rw [← hl] at r2 r3 u
        exact i30 hK (by omega) hS (by omega) (fun k a b => r3 k a (by omega)) (fun _ => h) (fun g => absurd g (by omega))
      · rw [tok_n hp z u] at h hl
        dsimp only at h hl
        rw [cod_n] at h
        rw [← hl] at r2 r3 u h
        rw [show p + len - p = len from by omega] at h
        exact i30 hK (by omega) hS (by omega) (fun k a b => r3 k a (by omega)) (fun g => absurd g (by omega)) (fun _ => h)
    · rw [tok_s hp y z] at h
      dsimp only at h
      have yes : isSg (f ((p : Nat) : Int)) = true → Fr xs L T n (d - 1) 244 82 [some (rf 54), some (it ((p : Nat) : Int)), some (it ((len : Nat) : Int)), some (it (f ((p : Nat) : Int))), none] [] s (qi P) := by
        intro e
        rw [if_pos e] at h
        simp only [isSg, decide_eq_true_eq] at e
        rw [cod_s (by omega)] at h
        exact f244_82 hK (f244_87 hK ⟨fun g => absurd g (by decide), fun _ => h⟩)
      have no : ¬ isSg (f ((p : Nat) : Int)) = true → Fr xs L T n (d - 1) 244 87 [some (rf 54), some (it ((p : Nat) : Int)), some (it ((len : Nat) : Int)), some (it (f ((p : Nat) : Int))), none] [it 0] s (qi P) := by
        intro e
        rw [if_neg e, cod_x] at h
        exact f244_87 hK ⟨fun _ => h, fun g => absurd rfl g⟩
      refine ⟨fun g => yes (by simp only [isSg, decide_eq_true_eq]; omega), fun g1 => ⟨fun g => yes (by simp only [isSg, decide_eq_true_eq]; omega), fun g2 => ⟨fun g => yes (by simp only [isSg, decide_eq_true_eq]; omega), fun g3 => ⟨fun g => yes (by simp only [isSg, decide_eq_true_eq]; omega), fun g4 => ⟨fun g => yes (by simp only [isSg, decide_eq_true_eq]; omega), fun g5 => ⟨fun g => yes (by simp only [isSg, decide_eq_true_eq]; omega), fun g6 => ⟨fun g => yes (by simp only [isSg, decide_eq_true_eq]; omega), fun g7 => ⟨fun g => no (by simp only [isSg, decide_eq_true_eq]; omega), fun g => yes (by simp only [isSg, decide_eq_true_eq]; omega)⟩⟩⟩⟩⟩⟩⟩⟩
theorem i240 (hK : KR T n) (hd : 1 ≤ d) {j : Nat} {a b : Int} {P : Pl → Prop} (h4 : s 53 4 = ((j : Nat) : Int)) (hj : j < 161) (h : P (zup (zup (zup s 55 ((j : Nat) : Int) a) 56 ((j : Nat) : Int) b) 53 4 ((j + 1 : Nat) : Int))) : Ev xs L T n d 240 [rf 54, it a, it b] s (qv P) := by
  refine e240 hd (f240_0 hK ?_)
  have e1 : zup s 55 ((j : Nat) : Int) a 53 4 = ((j : Nat) : Int) := by rw [zg, if_neg (by omega), h4]
  have e2 : zup (zup s 55 ((j : Nat) : Int) a) 56 ((j : Nat) : Int) b 53 4 = ((j : Nat) : Int) := by rw [zg, if_neg (by omega), e1]
  rw [h4, e1, e2, zw_id (by omega) (by omega)]
  exact ⟨fun g => absurd g (by omega), fun _ => ⟨fun g => absurd g (by omega), fun _ => ⟨by omega, by omega, h⟩⟩⟩
/-- where the j-th TOKEN is looked for -/
def posn (f : Int → Int) (m : Nat) : Nat → Nat
  | 0 => 0
  | j + 1 => (tokT f m 0 (skp f m (posn f m j))).2.2
def tkF (f : Int → Int) (m : Nat) (s : Pl) (F : Nat) : Prop := ∀ i, i < F → s 55 ((i : Nat) : Int) = cod (tokT f m 0 (skp f m (posn f m i))).1 (tokT f m 0 (skp f m (posn f m i))).2.1 ∧ s 56 ((i : Nat) : Int) = ((skp f m (posn f m i) : Nat) : Int)
def tks (f : Int → Int) (m : Nat) (s : Pl) (F : Nat) : Prop := (s 53 4 = ((F : Nat) : Int) ∧ 1 ≤ F ∧ F ≤ 161) ∧ tkF f m s F ∧ skp f m (posn f m (F - 1)) = m
theorem tks.cong {s s1 : Pl} {F : Nat} (h : tks f m s F) (k : s1 53 4 = s 53 4) (k2 : s1 55 = s 55) (k3 : s1 56 = s 56) : tks f m s1 F := by
  unfold tks tkF
  rw [k, k2, k3]
  exact h
theorem tkF.more {s : Pl} {j : Nat} {a b : Int} (h : tkF f m s j) (ha : a = cod (tokT f m 0 (skp f m (posn f m j))).1 (tokT f m 0 (skp f m (posn f m j))).2.1) (hb : b = ((skp f m (posn f m j) : Nat) : Int)) : tkF f m (zup (zup (zup s 55 ((j : Nat) : Int) a) 56 ((j : Nat) : Int) b) 53 4 ((j + 1 : Nat) : Int)) (j + 1) := by
  intro i hi
  by_cases e : i = j
  · subst e
    rw [zg, if_neg (by omega), zg, if_neg (by omega), zg, if_pos ⟨rfl, rfl⟩, zg, if_neg (by omega), zg, if_pos ⟨rfl, rfl⟩]
    exact ⟨ha, hb⟩
  · rw [zg, if_neg (by omega), zg, if_neg (by omega), zg, if_neg (by omega), zg, if_neg (by omega), zg, if_neg (by omega), zg, if_neg (by omega)]
    exact h i (by omega)
theorem skp_m : skp f m m = m := by
  unfold skp
  rw [Nat.sub_self]
  rfl
theorem skp_bl {q : Nat} (hq : q < m) (h : isBl (f ((q : Nat) : Int)) = true) : skp f m q = skp f m (q + 1) := by
  unfold skp
  exact rn_first hq h
theorem skp_no {q : Nat} (hq : q < m) (h : ¬ isBl (f ((q : Nat) : Int)) = true) : skp f m q = q := by
  unfold skp
  obtain ⟨j, hj⟩ : ∃ j, m - q = j + 1 := ⟨m - q - 1, by omega⟩
  rw [hj]
  show (if isBl (f ((q : Nat) : Int)) = true then rn f isBl j (q + 1) else q) = _
  rw [if_neg h]
/-- what the tape gives as tokens -/
theorem l29 (hK : KR T n) (hd : 8 ≤ d) {s0 : Pl} {P : Pl → Prop} (hS : tS f m s0) (h : ∀ s1 F, tks f m s1 F → (∀ c i, ¬ (c = 53 ∧ i = 4 ∨ c = 55 ∨ c = 56) → s1 c i = s0 c i) → P s1) : ∀ (N q j : Nat) (s : Pl) (w2 : Option AV), m - q ≤ N → q ≤ m → j ≤ q → skp f m (posn f m j) = skp f m q → s 53 4 = ((j : Nat) : Int) → tkF f m s j → (∀ c i, ¬ (c = 53 ∧ i = 4 ∨ c = 55 ∨ c = 56) → s c i = s0 c i) → Fr xs L T n (d - 1) 29 7 [some (rf 54), some (it ((q : Nat) : Int)), w2] [] s (qv P) := by
  have hm := hS.2.1
  have cg : ∀ s : Pl, (∀ c i, ¬ (c = 53 ∧ i = 4 ∨ c = 55 ∨ c = 56) → s c i = s0 c i) → tS f m s := fun s fr => hS.cong (fr 53 1 (by omega)) (funext fun i => fr 54 i (by omega))
  have up : ∀ (s : Pl) (j : Nat) (a b : Int), (∀ c i, ¬ (c = 53 ∧ i = 4 ∨ c = 55 ∨ c = 56) → s c i = s0 c i) → ∀ c i, ¬ (c = 53 ∧ i = 4 ∨ c = 55 ∨ c = 56) → (zup (zup (zup s 55 ((j : Nat) : Int) a) 56 ((j : Nat) : Int) b) 53 4 ((j + 1 : Nat) : Int)) c i = s0 c i := fun s j a b fr c i hc => by
    rw [zg, if_neg (by omega), zg, if_neg (by omega), zg, if_neg (by omega), fr c i hc]
  have fin : ∀ (q j : Nat) (s : Pl) (w2 : Option AV), m = q → j ≤ q → skp f m (posn f m j) = skp f m q → s 53 4 = ((j : Nat) : Int) → tkF f m s j → (∀ c i, ¬ (c = 53 ∧ i = 4 ∨ c = 55 ∨ c = 56) → s c i = s0 c i) → Fr xs L T n (d - 1) 29 7 [some (rf 54), some (it ((q : Nat) : Int)), w2] [] s (qv P) := by
    intro q j s w2 hq hj hsk h4 hF fr
    subst hq
    refine f29_7 hK ?_
    rw [(cg s fr).1]
    rw [skp_m] at hsk
    refine ⟨fun _ => i240 hK (by omega) h4 (by omega) (h _ (j + 1) ⟨⟨by rw [zg, if_pos ⟨rfl, rfl⟩], by omega, by omega⟩, hF.more ?_ ?_, ?_⟩ (up s j _ _ fr)), fun g => absurd g (by omega)⟩
    · rw [hsk, tok_end (Nat.le_refl _), cod_e]
    · rw [hsk]
    · rw [Nat.add_sub_cancel]; exact hsk
  intro N
  induction N with
  | zero =>
    intro q j s w2 hN hq hj hsk h4 hF fr
    exact fin q j s w2 (by omega) hj hsk h4 hF fr
  | succ N ih =>
    intro q j s w2 hN hq hj hsk h4 hF fr
    by_cases hqm : m = q
    · exact fin q j s w2 hqm hj hsk h4 hF fr
    have hlt : q < m := by omega
    have hS1 := cg s fr
    have tk := tokT_ok (f := f) (am := 0) hq
    refine f29_7 hK ?_
    rw [hS1.1]
    refine ⟨fun g => absurd g (by omega), fun _ => i243 hK (by omega) hS1 hlt ?_⟩
    have bl : isBl (f ((q : Nat) : Int)) = true → Fr xs L T n (d - 1) 29 54 [some (rf 54), some (it ((q : Nat) : Int)), some (it (((tokT f m 0 q).2.2 : Nat) : Int))] [] s (qv P) := by
      intro y
      have y1 : ¬ isLe (f ((q : Nat) : Int)) = true := by simp only [isLe, isBl, decide_eq_true_eq] at *; omega
      have y2 : ¬ isDg (f ((q : Nat) : Int)) = true := by simp only [isDg, isBl, decide_eq_true_eq] at *; omega
      rw [tok_s hlt y1 y2]
      refine f29_54 hK (i230 (by omega) ?_)
      rw [zw_id (by omega) (by omega), show (if (((q + 1 : Nat) : Nat) : Int) < ((q : Nat) : Int) + 1 then ((q : Nat) : Int) + 1 else ((q + 1 : Nat) : Int)) = ((q + 1 : Nat) : Int) from by split <;> omega]
      exact ih (q + 1) j s _ (by omega) (by omega) (by omega) (by rw [hsk]; exact skp_bl hlt y) h4 hF fr
    refine i27 hK hS1 hlt (by omega) ⟨fun g => bl (by simp only [isBl, decide_eq_true_eq]; exact Or.inl g), fun g1 => i27 hK hS1 hlt (by omega) ⟨fun g => bl (by simp only [isBl, decide_eq_true_eq]; exact Or.inr g), fun g2 => ?_⟩⟩
    have nb : ¬ isBl (f ((q : Nat) : Int)) = true := by simp only [isBl, decide_eq_true_eq]; omega
    have sq := skp_no hlt nb
    have gt : q < (tokT f m 0 q).2.2 := by
      by_cases e : (tokT f m 0 q).1 = 301
      · exfalso
        by_cases y1 : isLe (f ((q : Nat) : Int)) = true
        · rw [tok_le hlt y1] at e
          have := wtok_r (f := f) (p := q) (e := rn f isLe (m - q) q) 12 0 rfl
          dsimp only at e
          omega
        · by_cases y2 : isDg (f ((q : Nat) : Int)) = true
          · by_cases u : q + 4 < rn f isDg (m - q) q
            · rw [tok_w hlt y2 u] at e; exact absurd e (show ¬ (302 : Int) = 301 by decide)
            · rw [tok_n hlt y2 u] at e; exact absurd e (show ¬ (300 : Int) = 301 by decide)
          · rw [tok_s hlt y1 y2] at e
            dsimp only at e
            by_cases y3 : isSg (f ((q : Nat) : Int)) = true
            · rw [if_pos y3] at e
              simp only [isSg, decide_eq_true_eq] at y3
              omega
            · rw [if_neg y3] at e
              exact absurd e (by decide)
      · exact tk.2.2.1 e
    have le := tk.2.1
    rw [zw_id (by omega) (by omega), show (((tokT f m 0 q).2.2 : Nat) : Int) - ((q : Nat) : Int) = (((tokT f m 0 q).2.2 - q : Nat) : Int) from by omega]
    refine i244 hK (by omega) hS1 hlt (by omega) (i240 hK (by omega) h4 (by omega) (f29_54 hK (i230 (by omega) ?_)))
    rw [zw_id (by omega) (by omega), show (if (((tokT f m 0 q).2.2 : Nat) : Int) < ((q : Nat) : Int) + 1 then ((q : Nat) : Int) + 1 else (((tokT f m 0 q).2.2 : Nat) : Int)) = (((tokT f m 0 q).2.2 : Nat) : Int) from by split <;> omega]
    have ps : posn f m (j + 1) = (tokT f m 0 q).2.2 := by
      show (tokT f m 0 (skp f m (posn f m j))).2.2 = _
      rw [hsk, sq]
    exact ih _ (j + 1) _ _ (by omega) le (by omega) (by rw [ps]) (by rw [zg, if_pos ⟨rfl, rfl⟩]) (hF.more (by rw [hsk, sq]) (by rw [hsk, sq])) (up s j _ _ fr)
theorem i29 (hK : KR T n) (hd : 9 ≤ d) {P : Pl → Prop} (hS : tS f m s) (h : ∀ s1 F, tks f m s1 F → (∀ c i, ¬ (c = 53 ∧ i = 4 ∨ c = 55 ∨ c = 56) → s1 c i = s c i) → P s1) : Ev xs L T n d 29 [rf 54] s (qv P) := by
  refine e29 (by omega) (f29_0 hK ?_)
  exact l29 hK (by omega) hS h m 0 0 _ _ (by omega) (Nat.zero_le _) (Nat.le_refl _) rfl (by rw [zg, if_pos ⟨rfl, rfl⟩]; rfl) (fun i hi => absurd hi (by omega)) (fun c i hc => by rw [zg, if_neg (by omega)])
/-- a step -/
theorem i28 (hK : KR T n) (hd : 1 ≤ d) {k F : Nat} (hq : tks f m s F) (h5 : s 53 5 = ((k : Nat) : Int)) (hk : k < F) {P : Pl → Prop} (h : ∀ s1, s1 53 7 = ((skp f m (posn f m k) : Nat) : Int) → s1 53 5 = ((k + 1 : Nat) : Int) → s1 53 6 = cod (tokT f m 0 (skp f m (posn f m k))).1 (tokT f m 0 (skp f m (posn f m k))).2.1 → (∀ c i, ¬ (c = 53 ∧ 5 ≤ i ∧ i ≤ 7) → s1 c i = s c i) → P s1) : Ev xs L T n d 28 [rf 54] s (qv P) := by
  obtain ⟨⟨q1, q2, q3⟩, q4, q5⟩ := hq
  obtain ⟨t1, t2⟩ := q4 k hk
  refine e28 hd (f28_0 hK ?_)
  rw [h5, q1]
  have e1 : ∀ v, zup s 53 6 v 53 5 = ((k : Nat) : Int) := fun v => by rw [zg, if_neg (by omega), h5]
  have e2 : ∀ v, zup s 53 6 v 56 = s 56 := fun v => zune _ _ _ (by decide)
  have e3 : ∀ v w, zup (zup s 53 6 v) 53 7 w 53 5 = ((k : Nat) : Int) := fun v w => by rw [zg, if_neg (by omega), e1]
  rw [e1, e2, e3, t1, t2, zw_id (by omega) (by omega)]
  refine ⟨fun g => absurd g (by omega), fun _ => ⟨fun g => absurd g (by omega), fun _ => ⟨fun g => absurd g (by omega), fun _ => ⟨by omega, by omega, h _ ?_ ?_ ?_ (fun c i hc => ?_)⟩⟩⟩⟩
  · rw [zg, if_neg (by omega), zg, if_pos ⟨rfl, rfl⟩]
  · rw [zg, if_pos ⟨rfl, rfl⟩]; omega
  · rw [zg, if_neg (by omega), zg, if_neg (by omega), zg, if_pos ⟨rfl, rfl⟩]
  · rw [zg, if_neg (by omega), zg, if_neg (by omega), zg, if_neg (by omega)]
theorem i28e (hK : KR T n) (hd : 1 ≤ d) {F : Nat} (hq : tks f m s F) (h5 : s 53 5 = ((F : Nat) : Int)) {P : Pl → Prop} (h : P s) : Ev xs L T n d 28 [rf 54] s (qv P) := by
  obtain ⟨⟨q1, q2, q3⟩, q4, q5⟩ := hq
  refine e28 hd (f28_0 hK ?_)
  rw [h5, q1]
  exact ⟨fun _ => h, fun _ => ⟨fun _ => h, fun g => absurd (Int.le_refl _) g⟩⟩
/-- the number that was read last but for a number's own token -/
theorem tok_am (a b : Int) (p : Nat) : (tokT f m a p).1 = (tokT f m b p).1 ∧ (tokT f m a p).2.2 = (tokT f m b p).2.2 ∧ ((tokT f m a p).1 = 300 → (tokT f m a p).2.1 = (tokT f m b p).2.1) := by
  by_cases h1 : m ≤ p
  · rw [tok_end h1, tok_end h1]
    exact ⟨rfl, rfl, fun h => absurd h (show ¬ (301 : Int) = 300 by decide)⟩
  have hp : p < m := by omega
  by_cases h2 : isLe (f ((p : Nat) : Int)) = true
  · rw [tok_le hp h2, tok_le hp h2]
    have := wtok_r (f := f) (p := p) (e := rn f isLe (m - p) p) 12 0 rfl
    exact ⟨rfl, rfl, fun h => by dsimp only at h; omega⟩
  by_cases h3 : isDg (f ((p : Nat) : Int)) = true
  · by_cases u : p + 4 < rn f isDg (m - p) p
    · rw [tok_w hp h3 u, tok_w hp h3 u]
      exact ⟨rfl, rfl, fun h => absurd h (show ¬ (302 : Int) = 300 by decide)⟩
    · rw [tok_n hp h3 u, tok_n hp h3 u]
      exact ⟨rfl, rfl, fun _ => rfl⟩
  · rw [tok_s hp h2 h3, tok_s hp h2 h3]
    refine ⟨rfl, rfl, fun h => ?_⟩
    dsimp only at h
    by_cases y3 : isSg (f ((p : Nat) : Int)) = true
    · rw [if_pos y3] at h
      simp only [isSg, decide_eq_true_eq] at y3
      omega
    · rw [if_neg y3] at h
      exact absurd h (by decide)
theorem tok_cod (a b : Int) (p : Nat) : cod (tokT f m a p).1 (tokT f m a p).2.1 = cod (tokT f m b p).1 (tokT f m b p).2.1 := by
  obtain ⟨h1, h2, h3⟩ := tok_am (f := f) (m := m) a b p
  by_cases e : (tokT f m a p).1 = 300
  · rw [h3 e, h1]
  · rw [← h1]; exact cod_am _ _ e
theorem tks.last {s : Pl} {k F : Nat} (h : tks f m s F) (e : k + 1 = F) (a : Int) : (tokT f m a (skp f m (posn f m k))).1 = 301 ∧ skp f m (posn f m k) = m := by
  have h3 := h.2.2
  rw [← e, Nat.add_sub_cancel] at h3
  rw [h3, tok_end (Nat.le_refl _)]
  exact ⟨rfl, rfl⟩
theorem tks.end {s : Pl} {F : Nat} (h : tks f m s F) : posn f m F = m := by
  have h1 := h.1.2.1
  obtain ⟨k, rfl⟩ : ∃ k, F = k + 1 := ⟨F - 1, by omega⟩
  have h3 := h.last rfl 0
  show (tokT f m 0 (skp f m (posn f m k))).2.2 = m
  rw [h3.2, tok_end (Nat.le_refl _)]
end TOK
