/-! the reference's next token -/
def tkR (tk am so is : Int) : Prop := (tk < 12 → so = 1 ∧ is = meanOf tk) ∧ (12 ≤ tk → tk < 300 → so = 3 ∧ is = tk) ∧ (tk = 300 → so = 2 ∧ is = am) ∧ (tk = 301 → so = 4) ∧ (tk = 302 → so = 5)
theorem tkR_e {am b : Int} : tkR 301 am 4 b := ⟨fun g => absurd g (by decide), fun _ g => absurd g (by decide), fun g => absurd g (by decide), fun _ => rfl, fun g => absurd g (by decide)⟩
theorem tkR_w {am b : Int} : tkR 302 am 5 b := ⟨fun g => absurd g (by decide), fun _ g => absurd g (by decide), fun g => absurd g (by decide), fun g => absurd g (by decide), fun _ => rfl⟩
theorem tkR_n {am b : Int} (h : b = am) : tkR 300 am 2 b := ⟨fun g => absurd g (by decide), fun _ g => absurd g (by decide), fun _ => ⟨rfl, h⟩, fun g => absurd g (by decide), fun g => absurd g (by decide)⟩
theorem tkR_s {k am b : Int} (h : b = k) (h1 : 12 ≤ k) (h2 : k < 300) : tkR k am 3 b := ⟨fun g => absurd g (by omega), fun _ _ => ⟨rfl, h⟩, fun g => absurd g (by omega), fun g => absurd g (by omega), fun g => absurd g (by omega)⟩
section NM
variable {xs : Nat → Int} {L : Nat} {d : Nat} {s : Pl} {f : Int → Int} {m : Nat}
theorem tM.le {k : Nat} (hM : tM f m s) (hk : k < m) : (97 ≤ s 81 ((k : Nat) : Int) ∧ s 81 ((k : Nat) : Int) ≤ 122) ↔ isLe (f ((k : Nat) : Int)) = true := by
  have b := hM.b hk
  simp only [isLe, decide_eq_true_eq]; omega
theorem tM.dg {k : Nat} (hM : tM f m s) (hk : k < m) : (48 ≤ s 81 ((k : Nat) : Int) ∧ s 81 ((k : Nat) : Int) ≤ 57) ↔ isDg (f ((k : Nat) : Int)) = true := by
  have b := hM.b hk
  simp only [isDg, decide_eq_true_eq]; omega
theorem l146a {P : Pl → Prop} (hM : tM f m s) : ∀ (j k : Nat), k + j = m → Fr xs L T0 106 d 146 60 [some (rf 73), none] [] (zup s 72 21 ((rn f isBl j k : Nat) : Int)) (qv P) → Fr xs L T0 106 d 146 8 [some (rf 73), none] [] (zup s 72 21 ((k : Nat) : Int)) (qv P) := by
  intro j
  induction j with
  | zero =>
    intro k hk h
    have hM2 := hM.up (i := 21) (v := ((k : Nat) : Int)) (by decide)
    have e21 : zup s 72 21 ((k : Nat) : Int) 72 21 = ((k : Nat) : Int) := by rw [zg, if_pos ⟨rfl, rfl⟩]
    refine f146_8 ?_
    rw [hM2.1.1, e21]
    exact ⟨fun _ => h, fun g => absurd g (by omega)⟩
  | succ j ih =>
    intro k hk h
    have hM2 := hM.up (i := 21) (v := ((k : Nat) : Int)) (by decide)
    have hm := hM.1.2
    have e21 : zup s 72 21 ((k : Nat) : Int) 72 21 = ((k : Nat) : Int) := by rw [zg, if_pos ⟨rfl, rfl⟩]
    have b := hM2.b (k := k) (by omega)
    unfold rn at h
    refine f146_8 ?_
    rw [hM2.1.1, e21]
    have next : isBl (f ((k : Nat) : Int)) = true → Fr xs L T0 106 d 146 47 [some (rf 73), none] [] (zup s 72 21 ((k : Nat) : Int)) (qv P) := by
      intro e
      rw [if_pos e] at h
      refine f146_47 ?_
      rw [e21, zw_id (by omega) (by omega), zup_zup]
      exact ih (k + 1) (by omega) h
    refine ⟨fun g => absurd g (by omega), fun _ => ⟨by omega, fun g => next (by simp only [isBl, decide_eq_true_eq]; omega), fun g => ⟨by omega, fun g2 => ?_, fun g2 => next (by simp only [isBl, decide_eq_true_eq]; omega)⟩⟩⟩
    rw [if_neg (by simp only [isBl, decide_eq_true_eq]; omega)] at h
    exact h
theorem l146b {v1 : Int} {P : Pl → Prop} (hd : 2 ≤ d) (hM : tM f m s) : ∀ (j k : Nat), k + j = m → Fr xs L T0 106 d 146 149 [some (rf 73), some (it v1)] [] (zup s 72 22 ((rn f isLe j k : Nat) : Int)) (qv P) → Fr xs L T0 106 d 146 110 [some (rf 73), some (it v1)] [] (zup s 72 22 ((k : Nat) : Int)) (qv P) := by
  intro j
  induction j with
  | zero =>
    intro k hk h
    have hM2 := hM.up (i := 22) (v := ((k : Nat) : Int)) (by decide)
    have e22 : zup s 72 22 ((k : Nat) : Int) 72 22 = ((k : Nat) : Int) := by rw [zg, if_pos ⟨rfl, rfl⟩]
    refine f146_110 ?_
    rw [hM2.1.1, e22]
    exact ⟨fun _ => h, fun g => absurd g (by omega)⟩
  | succ j ih =>
    intro k hk h
    have hM2 := hM.up (i := 22) (v := ((k : Nat) : Int)) (by decide)
    have hm := hM.1.2
    have e22 : zup s 72 22 ((k : Nat) : Int) 72 22 = ((k : Nat) : Int) := by rw [zg, if_pos ⟨rfl, rfl⟩]
    have b := hM2.le (k := k) (by omega)
    unfold rn at h
    refine f146_110 ?_
    rw [hM2.1.1, e22]
    refine ⟨fun g => absurd g (by omega), fun _ => ⟨by omega, i143 hd (fun q => ⟨fun g => absurd g (by decide), fun _ => ?_⟩) (fun q => ⟨fun _ => ?_, fun g => absurd rfl g⟩)⟩⟩
    · rw [if_pos (b.mp q)] at h
      rw [e22, zw_id (by omega) (by omega), zup_zup]
      exact ih (k + 1) (by omega) h
    · rw [if_neg (fun w => q (b.mpr w))] at h
      exact h
theorem zupc (s : Pl) (k : Nat) {i j : Int} (a b : Int) (h : i ≠ j) : zup (zup s k i a) k j b = zup (zup s k j b) k i a := by
  funext c q
  rw [zg, zg, zg, zg]
  by_cases e : c = k ∧ q = j
  · rw [if_pos e, if_neg (by omega), if_pos e]
  · rw [if_neg e, if_neg e]
theorem l146c {v1 : Int} {P : Pl → Prop} (hd : 2 ≤ d) (hM : tM f m s) {p : Nat} (h21 : s 72 21 = ((p : Nat) : Int)) {N : Int} : ∀ (j k : Nat) (a : Int), k + j = m → p ≤ k → (k = p ∧ a = 0 ∨ k = p + 1 ∧ 0 ≤ a ∧ a ≤ 9 ∨ k = p + 2 ∧ 0 ≤ a ∧ a ≤ 99 ∨ k = p + 3 ∧ 0 ≤ a ∧ a ≤ 999 ∨ p + 4 ≤ k) → (rn f isDg j k ≤ p + 4 → numv f (rn f isDg j k - k) k a = N) →
    (∀ a2, (rn f isDg j k ≤ p + 4 → a2 = N) → Fr xs L T0 106 d 146 264 [some (rf 73), some (it v1)] [] (zup (zup s 72 22 ((rn f isDg j k : Nat) : Int)) 72 24 a2) (qv P)) → Fr xs L T0 106 d 146 188 [some (rf 73), some (it v1)] [] (zup (zup s 72 22 ((k : Nat) : Int)) 72 24 a) (qv P) := by
  intro j
  induction j with
  | zero =>
    intro k a hk hp ha hN h
    have hM2 := (hM.up (i := 22) (v := ((k : Nat) : Int)) (by decide)).up (i := 24) (v := a) (by decide)
    have e22 : zup (zup s 72 22 ((k : Nat) : Int)) 72 24 a 72 22 = ((k : Nat) : Int) := by rw [zg, if_neg (by omega), zg, if_pos ⟨rfl, rfl⟩]
    refine f146_188 ?_
    rw [hM2.1.1, e22]
    refine ⟨fun _ => h a (fun q => ?_), fun g => absurd g (by omega)⟩
    have := hN q
    rw [show rn f isDg 0 k = k from rfl, Nat.sub_self] at this
    exact this
  | succ j ih =>
    intro k a hk hp ha hN h
    have hM2 := (hM.up (i := 22) (v := ((k : Nat) : Int)) (by decide)).up (i := 24) (v := a) (by decide)
    have hm := hM.1.2
    have e22 : zup (zup s 72 22 ((k : Nat) : Int)) 72 24 a 72 22 = ((k : Nat) : Int) := by rw [zg, if_neg (by omega), zg, if_pos ⟨rfl, rfl⟩]
    have e21 : zup (zup s 72 22 ((k : Nat) : Int)) 72 24 a 72 21 = ((p : Nat) : Int) := by rw [zg, if_neg (by omega), zg, if_neg (by omega), h21]
    have e24 : zup (zup s 72 22 ((k : Nat) : Int)) 72 24 a 72 24 = a := by rw [zg, if_pos ⟨rfl, rfl⟩]
    have b := hM2.dg (k := k) (by omega)
    have b2 := hM2.b (k := k) (by omega)
    refine f146_188 ?_
    rw [hM2.1.1, e22]
    refine ⟨fun g => absurd g (by omega), fun _ => ⟨by omega, i144 hd (fun q => ⟨fun g => absurd g (by decide), fun _ => ?_⟩) (fun q => ⟨fun _ => ?_, fun g => absurd rfl g⟩)⟩⟩
    · have qd := b.mp q
      have er : rn f isDg (j + 1) k = rn f isDg j (k + 1) := if_pos qd
      rw [er] at hN h
      have ge := rn_ge (f := f) (q := isDg) j (k + 1)
      rw [e22, e21, e24, zw_id (x := ((k : Nat) : Int) - (p : Int)) (by omega) (by omega)]
      refine ⟨fun g => ?_, fun g => ⟨by omega, ?_⟩⟩
      · refine f146_251 ?_
        rw [e22, zw_id (by omega) (by omega), zupc _ _ _ _ (by decide), zup_zup]
        exact ih (k + 1) a (by omega) (by omega) (by omega) (fun q3 => by omega) h
      · refine f146_251 ?_
        have ev : s 81 ((k : Nat) : Int) = f ((k : Nat) : Int) := by
          have := hM.b (k := k) (by omega)
          simp only [isDg, decide_eq_true_eq] at qd
          omega
        have ev2 : zup (zup s 72 22 ((k : Nat) : Int)) 72 24 a 81 ((k : Nat) : Int) = f ((k : Nat) : Int) := by rw [zg, if_neg (by omega), zg, if_neg (by omega), ev]
        simp only [isDg, decide_eq_true_eq] at qd
        rw [ev2, zw_id (x := 10 * a) (by omega) (by omega), zw_id (x := 10 * a + f ((k : Nat) : Int)) (by omega) (by omega), zw_id (x := 10 * a + f ((k : Nat) : Int) - 48) (by omega) (by omega), zup_zup]
        have e22b : zup (zup s 72 22 ((k : Nat) : Int)) 72 24 (10 * a + f ((k : Nat) : Int) - 48) 72 22 = ((k : Nat) : Int) := by rw [zg, if_neg (by omega), zg, if_pos ⟨rfl, rfl⟩]
        rw [e22b, zw_id (by omega) (by omega), zupc _ _ _ _ (by decide), zup_zup]
        refine ih (k + 1) _ (by omega) (by omega) (by omega) (fun q3 => ?_) h
        have := hN q3
        rw [show rn f isDg j (k + 1) - k = (rn f isDg j (k + 1) - (k + 1)) + 1 from by omega] at this
        exact this
    · have er : rn f isDg (j + 1) k = k := if_neg (fun w => q (b.mpr w))
      rw [er] at hN h
      refine h a (fun q2 => ?_)
      have := hN q2
      rw [Nat.sub_self] at this
      exact this
theorem q146 (hd : 2 ≤ d) (hM : tM f m s) {p : Nat} {am : Int} (hp : p ≤ m) (h21 : s 72 21 = ((p : Nat) : Int)) {P : Pl → Prop} (h : ∀ s1, s1 72 21 = ((p : Nat) : Int) → s1 72 22 = (((tokT f m am p).2.2 : Nat) : Int) → tkR (tokT f m am p).1 (tokT f m am p).2.1 (s1 72 23) (s1 72 24) → (∀ c i, ¬ (c = 72 ∧ 21 ≤ i ∧ i ≤ 24) → s1 c i = s c i) → P s1) : Fr xs L T0 106 d 146 60 [some (rf 73), none] [] s (qv P) := by
  have hm := hM.1.2
  have hM2 : tM f m (zup s 72 22 ((p : Nat) : Int)) := hM.up (by decide)
  have e21 : zup s 72 22 ((p : Nat) : Int) 72 21 = ((p : Nat) : Int) := by rw [zg, if_neg (by omega), h21]
  have e22 : zup s 72 22 ((p : Nat) : Int) 72 22 = ((p : Nat) : Int) := by rw [zg, if_pos ⟨rfl, rfl⟩]
  refine f146_60 ?_
  rw [h21, e21, hM2.1.1]
  by_cases hpm : m ≤ p
  · refine ⟨fun g => absurd g (by omega), fun _ => ?_⟩
    rw [tok_end hpm] at h
    refine h _ ?_ ?_ ?_ ?_
    · rw [zg, if_neg (by omega), zg, if_pos ⟨rfl, rfl⟩]; omega
    · rw [zg, if_neg (by omega), zg, if_neg (by omega), zg, if_pos ⟨rfl, rfl⟩]
    · rw [zg, if_pos ⟨rfl, rfl⟩]
      exact tkR_e
    · intro c i hc
      rw [zg, if_neg (by omega), zg, if_neg (by omega), zg, if_neg (by omega)]
  have hlt : p < m := by omega
  have b := hM.b hlt
  have bl := hM.le hlt
  have bd := hM.dg hlt
  have e79 : zup s 72 22 ((p : Nat) : Int) 81 ((p : Nat) : Int) = s 81 ((p : Nat) : Int) := by rw [zg, if_neg (by omega)]
  rw [e79]
  refine ⟨fun _ => ⟨by omega, i143 hd (fun q => ⟨fun g => absurd g (by decide), fun _ => ?_⟩) (fun q => ⟨fun _ => i144 hd (fun q2 => ⟨fun g => absurd g (by decide), fun _ => ?_⟩) (fun q2 => ⟨fun _ => ?_, fun g => absurd rfl g⟩), fun g => absurd rfl g⟩)⟩, fun g => absurd g (by omega)⟩
  · -- a word
    have y := bl.mp q
    have r1 := rn_gt (f := f) (j := m - p) (by omega) y
    have r2 := rn_le (f := f) (q := isLe) (m - p) p
    have r4 := wtok_r (f := f) (p := p) (e := rn f isLe (m - p) p) 12 0 rfl
    rw [tok_le hlt y] at h
    refine l146b hd hM (m - p) p (by omega) ?_
    generalize hR : rn f isLe (m - p) p = R at *
    have q21 : zup s 72 22 ((R : Nat) : Int) 72 21 = ((p : Nat) : Int) := by rw [zg, if_neg (by omega), h21]
    have q22 : zup s 72 22 ((R : Nat) : Int) 72 22 = ((R : Nat) : Int) := by rw [zg, if_pos ⟨rfl, rfl⟩]
    refine f146_149 (i145 (by omega) (hM.up (by decide)) q21 q22 (by omega) (by omega) ?_)
    generalize wtok f p R 12 0 = W at *
    have e24 : zup (zup s 72 22 ((R : Nat) : Int)) 72 24 (meanOf W) 72 24 = meanOf W := by rw [zg, if_pos ⟨rfl, rfl⟩]
    rw [e24]
    have fin : ∀ v, tkR W am v (meanOf W) → Fr xs L T0 106 d 146 170 [some (rf 73), some (it (s 81 ((p : Nat) : Int)))] [it v, rf 73] (zup (zup s 72 22 ((R : Nat) : Int)) 72 24 (meanOf W)) (qv P) := by
      intro v hv
      refine f146_170 (h _ ?_ ?_ ?_ ?_)
      · rw [zg, if_neg (by omega), zg, if_neg (by omega), q21]
      · rw [zg, if_neg (by omega), zg, if_neg (by omega), q22]
      · rw [zg, if_pos ⟨rfl, rfl⟩, zg, if_neg (by omega), e24]; exact hv
      · intro c i hc
        rw [zg, if_neg (by omega), zg, if_neg (by omega), zg, if_neg (by omega)]
    refine ⟨fun g => fin 1 ?_, fun g => fin 5 ?_⟩
    · refine ⟨fun _ => ⟨rfl, rfl⟩, fun g1 g2 => by omega, fun g1 => by omega, fun g1 => by omega, fun g1 => ?_⟩
      rw [g1] at g
      exact absurd g (by decide)
    · unfold meanOf at g
      refine ⟨fun g1 => ?_, fun g1 g2 => by omega, fun g1 => by omega, fun g1 => by omega, fun _ => rfl⟩
      exfalso
      rw [if_neg (by omega)] at g
      split at g <;> omega
  · -- a number
    have y := bd.mp q2
    have r1 := rn_gt (f := f) (j := m - p) (by omega) y
    have r2 := rn_le (f := f) (q := isDg) (m - p) p
    refine l146c hd hM h21 (N := numv f (rn f isDg (m - p) p - p) p 0) (m - p) p 0 (by omega) (Nat.le_refl _) (Or.inl ⟨rfl, rfl⟩) (fun _ => rfl) (fun a2 ha2 => ?_)
    generalize hR : rn f isDg (m - p) p = R at *
    have q21 : zup (zup s 72 22 ((R : Nat) : Int)) 72 24 a2 72 21 = ((p : Nat) : Int) := by rw [zg, if_neg (by omega), zg, if_neg (by omega), h21]
    have q22 : zup (zup s 72 22 ((R : Nat) : Int)) 72 24 a2 72 22 = ((R : Nat) : Int) := by rw [zg, if_neg (by omega), zg, if_pos ⟨rfl, rfl⟩]
    have q24 : zup (zup s 72 22 ((R : Nat) : Int)) 72 24 a2 72 24 = a2 := by rw [zg, if_pos ⟨rfl, rfl⟩]
    refine f146_264 ?_
    rw [q21, q22, zw_id (by omega) (by omega)]
    refine ⟨fun g => f146_283 ?_, fun g => f146_283 ?_⟩
    · rw [tok_n hlt y (by omega), hR] at h
      refine h _ ?_ ?_ ?_ ?_
      · rw [zg, if_neg (by omega), q21]
      · rw [zg, if_neg (by omega), q22]
      · rw [zg, if_pos ⟨rfl, rfl⟩, zg, if_neg (by omega), q24]
        exact tkR_n (ha2 (by omega))
      · intro c i hc
        rw [zg, if_neg (by omega), zg, if_neg (by omega), zg, if_neg (by omega)]
    · rw [tok_w hlt y (by omega), hR] at h
      refine h _ ?_ ?_ ?_ ?_
      · rw [zg, if_neg (by omega), q21]
      · rw [zg, if_neg (by omega), q22]
      · rw [zg, if_pos ⟨rfl, rfl⟩]
        exact tkR_w
      · intro c i hc
        rw [zg, if_neg (by omega), zg, if_neg (by omega), zg, if_neg (by omega)]
  · -- a sign, or none
    rw [tok_s hlt (fun w => q (bl.mpr w)) (fun w => q2 (bd.mpr w))] at h
    have q22 : zw (zup s 72 22 ((p : Nat) : Int) 72 22 + 1) = ((p + 1 : Nat) : Int) := by rw [e22, zw_id (by omega) (by omega)]; omega
    rw [q22]
    have fin : ∀ v, (isSg (f ((p : Nat) : Int)) = true ∧ v = 3 ∨ ¬ isSg (f ((p : Nat) : Int)) = true ∧ v = 5) → P (zup (zup (zup (zup s 72 22 ((p : Nat) : Int)) 72 22 ((p + 1 : Nat) : Int)) 72 24 (s 81 ((p : Nat) : Int))) 72 23 v) := by
      intro v hv
      refine h _ ?_ ?_ ?_ ?_
      · rw [zg, if_neg (by omega), zg, if_neg (by omega), zg, if_neg (by omega), e21]
      · rw [zg, if_neg (by omega), zg, if_neg (by omega), zg, if_pos ⟨rfl, rfl⟩]
      · have q23 : zup (zup (zup (zup s 72 22 ((p : Nat) : Int)) 72 22 ((p + 1 : Nat) : Int)) 72 24 (s 81 ((p : Nat) : Int))) 72 23 v 72 23 = v := by rw [zg, if_pos ⟨rfl, rfl⟩]
        have q24 : zup (zup (zup (zup s 72 22 ((p : Nat) : Int)) 72 22 ((p + 1 : Nat) : Int)) 72 24 (s 81 ((p : Nat) : Int))) 72 23 v 72 24 = s 81 ((p : Nat) : Int) := by rw [zg, if_neg (by omega), zg, if_pos ⟨rfl, rfl⟩]
        rw [q23, q24]
        rcases hv with ⟨h1, rfl⟩ | ⟨h1, rfl⟩
        · rw [if_pos h1]
          simp only [isSg, decide_eq_true_eq] at h1
          exact tkR_s (by omega) (by omega) (by omega)
        · rw [if_neg h1]
          exact tkR_w
      · intro c i hc
        rw [zg, if_neg (by omega), zg, if_neg (by omega), zg, if_neg (by omega), zg, if_neg (by omega)]
    have yes : ∀ {v1 : Int}, isSg (f ((p : Nat) : Int)) = true → Fr xs L T0 106 d 146 353 [some (rf 73), some (it v1)] [rf 73] (zup (zup (zup s 72 22 ((p : Nat) : Int)) 72 22 ((p + 1 : Nat) : Int)) 72 24 (s 81 ((p : Nat) : Int))) (qv P) := fun e => f146_353 (f146_358 (fin 3 (Or.inl ⟨e, rfl⟩)))
    have sg : (s 81 ((p : Nat) : Int) = 40 ∨ s 81 ((p : Nat) : Int) = 41 ∨ s 81 ((p : Nat) : Int) = 59 ∨ s 81 ((p : Nat) : Int) = 43 ∨ s 81 ((p : Nat) : Int) = 45 ∨ s 81 ((p : Nat) : Int) = 42 ∨ s 81 ((p : Nat) : Int) = 60 ∨ s 81 ((p : Nat) : Int) = 61) ↔ isSg (f ((p : Nat) : Int)) = true := by
      simp only [isSg, decide_eq_true_eq]; omega
    refine ⟨fun g => yes (sg.mp (by omega)), fun g1 => ⟨fun g => yes (sg.mp (by omega)), fun g2 => ⟨fun g => yes (sg.mp (by omega)), fun g3 => ⟨fun g => yes (sg.mp (by omega)), fun g4 => ⟨fun g => yes (sg.mp (by omega)), fun g5 => ⟨fun g => yes (sg.mp (by omega)), fun g6 => ⟨fun g => yes (sg.mp (by omega)), fun g7 => ⟨fun g => f146_358 (fin 5 (Or.inr ⟨fun w => ?_, rfl⟩)), fun g => yes (sg.mp (by omega))⟩⟩⟩⟩⟩⟩⟩⟩
    have := sg.mpr w
    omega
theorem i146 (hd : 3 ≤ d) (hM : tM f m s) {x : TxS} (h22 : s 72 22 = ((x.nx : Nat) : Int)) (hn : x.nx ≤ m) {P : Pl → Prop} (h : ∀ s1, s1 72 21 = (((stepT f m x).p : Nat) : Int) → s1 72 22 = (((stepT f m x).nx : Nat) : Int) → tkR (stepT f m x).tk (stepT f m x).am (s1 72 23) (s1 72 24) → (∀ c i, ¬ (c = 72 ∧ 21 ≤ i ∧ i ≤ 24) → s1 c i = s c i) → P s1) : Ev xs L T0 106 d 146 [rf 73] s (qv P) := by
  have sk := skp_ok (f := f) hn
  refine e146 (by omega) (f146_0 ?_)
  rw [h22]
  refine l146a hM (m - x.nx) x.nx (by omega) ?_
  refine q146 (by omega) (hM.up (by decide)) (p := skp f m x.nx) (am := x.am) sk.2 (by rw [zg, if_pos ⟨rfl, rfl⟩]; rfl) (fun s1 a1 a2 a3 a4 => h s1 a1 a2 a3 (fun c i hc => ?_))
  rw [a4 c i hc, zg, if_neg (by omega)]
end NM
