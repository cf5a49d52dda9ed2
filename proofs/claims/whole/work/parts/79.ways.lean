/-! the shortest ways -/
def RW (w : Pl) (t : Nat) (u v : Nat) : Int := if u = v then 0 else rowV w t u v
def wlk (w : Pl) (t u : Nat) : Nat → Nat → Int → Prop
  | 0, v, k => v = u ∧ k = 0
  | j + 1, v, k => ∃ x a, wlk w t u j x a ∧ x < 4 ∧ x ≠ v ∧ v < 4 ∧ k = a + RW w t x v
theorem wlk.app {w : Pl} {t u x : Nat} {i : Nat} {a : Int} (hu : u < 4) (h1 : wlk w t u i x a) : ∀ (j v : Nat) (b : Int), wlk w t x j v b → ∃ l, wlk w t u l v (a + b) := by
  intro j
  induction j with
  | zero =>
    rintro v b ⟨rfl, rfl⟩
    exact ⟨i, by simpa using h1⟩
  | succ j ih =>
    rintro v b ⟨y, c, h2, h3, h4, h5, rfl⟩
    obtain ⟨l, hl⟩ := ih y c h2
    exact ⟨l + 1, y, a + c, hl, h3, h4, h5, by omega⟩
theorem RW_rng (w : Pl) (t u v : Nat) : 0 ≤ RW w t u v ∧ RW w t u v ≤ 99 ∧ (u ≠ v → 1 ≤ RW w t u v) := by
  have := rowV_rng w t u v
  unfold RW
  split
  · omega
  · omega
/-- a table of ways on the way to the shortest -/
def FW (w : Pl) (t : Nat) (Q : Nat → Nat → Int) (k : Nat) : Prop := (∀ a b, a < 4 → b < 4 → 0 ≤ Q a b ∧ Q a b ≤ RW w t a b ∧ ∃ j, wlk w t a j b (Q a b)) ∧ ∀ m, m < k → ∀ a b, a < 4 → b < 4 → Q a b ≤ Q a m + Q m b
def mn9 (a b : Int) : Int := if b < a then b else a
def fst9 (Q : Nat → Nat → Int) (k : Nat) : Nat → Nat → Int := fun a b => mn9 (Q a b) (Q a k + Q k b)
theorem FW.diag {w : Pl} {t k a : Nat} {Q : Nat → Nat → Int} (h : FW w t Q k) (ha : a < 4) : Q a a = 0 := by
  have h1 := h.1 a a ha ha
  have : RW w t a a = 0 := by simp [RW]
  omega
theorem mn9_le (a b : Int) : mn9 a b ≤ a ∧ mn9 a b ≤ b ∧ (mn9 a b = a ∨ mn9 a b = b) := by
  unfold mn9
  split <;> omega
theorem FW.next {w : Pl} {t k : Nat} {Q : Nat → Nat → Int} (h : FW w t Q k) (hk : k < 4) : FW w t (fst9 Q k) (k + 1) := by
  refine ⟨fun a b ha hb => ?_, fun m hm a b ha hb => ?_⟩
  · obtain ⟨q1, q2, j, q3⟩ := h.1 a b ha hb
    obtain ⟨r1, r2, j1, r3⟩ := h.1 a k ha hk
    obtain ⟨s1, s2, j2, s3⟩ := h.1 k b hk hb
    obtain ⟨m1, m2, m3⟩ := mn9_le (Q a b) (Q a k + Q k b)
    refine ⟨?_, ?_, ?_⟩
    · show 0 ≤ mn9 (Q a b) (Q a k + Q k b)
      omega
    · show mn9 (Q a b) (Q a k + Q k b) ≤ _
      omega
    · show ∃ j, wlk w t a j b (mn9 (Q a b) (Q a k + Q k b))
      rcases m3 with e | e
      · rw [e]; exact ⟨j, q3⟩
      · rw [e]; exact wlk.app ha r3 j2 b _ s3
  · show mn9 (Q a b) (Q a k + Q k b) ≤ mn9 (Q a m) (Q a k + Q k m) + mn9 (Q m b) (Q m k + Q k b)
    obtain ⟨m1, m2, _⟩ := mn9_le (Q a b) (Q a k + Q k b)
    obtain ⟨_, _, n3⟩ := mn9_le (Q a m) (Q a k + Q k m)
    obtain ⟨_, _, o3⟩ := mn9_le (Q m b) (Q m k + Q k b)
    have hkk := h.diag hk
    by_cases e : m = k
    · subst e
      have g1 : mn9 (Q a m) (Q a m + Q m m) = Q a m := by rw [hkk]; unfold mn9; rw [if_neg (by omega)]
      have g2 : mn9 (Q m b) (Q m m + Q m b) = Q m b := by rw [hkk]; unfold mn9; rw [if_neg (by omega)]
      rw [g1, g2]
      exact m2
    · have hm4 : m < 4 := by omega
      have t1 := h.2 m (by omega) a b ha hb
      have t2 := h.2 m (by omega) k b hk hb
      have t3 := h.2 m (by omega) a k ha hk
      have g1 := (h.1 k m hk hm4).1
      have g2 := (h.1 m k hm4 hk).1
      omega
/-- the shortest ways, by what makes them so -/
def DS (w : Pl) (t : Nat) (D : Nat → Nat → Int) : Prop := ∀ u v, u < 4 → v < 4 → (0 ≤ D u v ∧ D u v ≤ 99) ∧ (u = v → D u v = 0) ∧ (u ≠ v → 1 ≤ D u v) ∧ (∀ x, x < 4 → x ≠ v → D u v ≤ D u x + RW w t x v) ∧ (u ≠ v → ∃ x, x < 4 ∧ x ≠ v ∧ D u v = D u x + RW w t x v)
theorem FW.ds {w : Pl} {t : Nat} {Q : Nat → Nat → Int} (h : FW w t Q 4) : DS w t Q := by
  have rel : ∀ u v, u < 4 → v < 4 → ∀ x, x < 4 → Q u v ≤ Q u x + RW w t x v := fun u v hu hv x hx => by
    have h1 := h.2 x hx u v hu hv
    have h2 := (h.1 x v hx hv).2.1
    omega
  have low : ∀ u, u < 4 → ∀ j v b, wlk w t u j v b → v < 4 → Q u v ≤ b := by
    intro u hu j
    induction j with
    | zero => rintro v b ⟨rfl, rfl⟩ hv; rw [h.diag hu]; exact Int.le_refl _
    | succ j ih =>
      rintro v b ⟨x, a, h1, h2, h3, h4, rfl⟩ hv
      have := ih x a h1 h2
      have := rel u v hu hv x h2
      omega
  intro u v hu hv
  obtain ⟨q1, q2, j, q3⟩ := h.1 u v hu hv
  have hr := RW_rng w t u v
  refine ⟨⟨q1, by omega⟩, fun e => by subst e; exact h.diag hu, fun hne => ?_, fun x hx _ => rel u v hu hv x hx, fun hne => ?_⟩
  · match j, q3 with
    | 0, q3 => exact absurd q3.1.symm hne
    | j + 1, ⟨x, a, h1, h2, h3, h4, h5⟩ =>
      have := low u hu j x a h1 h2
      have := (h.1 u x hu h2).1
      have := (RW_rng w t x v).2.2 h3
      omega
  · match j, q3 with
    | 0, q3 => exact absurd q3.1.symm hne
    | j + 1, ⟨x, a, h1, h2, h3, h4, h5⟩ =>
      refine ⟨x, h2, h3, ?_⟩
      have := low u hu j x a h1 h2
      have := rel u v hu hv x h2
      omega
variable {xs : Nat → Int} {L : Nat} {d : Nat} {s : Pl}
def tb (s : Pl) (c : Nat) (Q : Nat → Nat → Int) : Prop := ∀ a b : Nat, a < 4 → b < 4 → s c (4 * a + b) = Q a b
theorem i51 {w : Pl} {t n : Nat} {P : Pl → Prop} (hd : 2 ≤ d) (hl : Lrn w t n s) (h : ∀ (s1 : Pl) (D : Nat → Nat → Int), DS w t D → tb s1 60 D → (∀ c, c ≠ 60 → s1 c = s c) → P s1) : Ev xs L T0 106 d 51 [rf 58] s (qv P) := by
  -- within a phase
  have lv : ∀ (Q : Nat → Nat → Int) (k u : Nat), FW w t Q k → k < 4 → u < 4 → (∀ (s1 : Pl) (v3 : Int) (w4 : Option AV), (∀ a b : Nat, a < 4 → b < 4 → s1 60 (4 * a + b) = if a < u + 1 then fst9 Q k a b else Q a b) → (∀ c, c ≠ 60 → s1 c = s c) → Fr xs L T0 106 (d - 1) 51 27 [some (rf 58), some (it (k : Nat)), some (it ((u + 1 : Nat) : Int)), some (it v3), w4] [] s1 (qv P)) → ∀ (j v : Nat) (s1 : Pl) (v3 : Int) (w4 : Option AV), v + j = 4 → v3 = (v : Nat) → (∀ a b : Nat, a < 4 → b < 4 → s1 60 (4 * a + b) = if a < u ∨ a = u ∧ b < v then fst9 Q k a b else Q a b) → (∀ c, c ≠ 60 → s1 c = s c) → Fr xs L T0 106 (d - 1) 51 34 [some (rf 58), some (it (k : Nat)), some (it (u : Nat)), some (it v3), w4] [] s1 (qv P) := by
    intro Q k u hF hk hu out j
    have zu : ∀ _ : Unit, zw ((u : Nat) + 1) = ((u + 1 : Nat) : Int) := fun _ => by rw [zw_id (by omega) (by omega)]; omega
    have hkk := hF.diag hk
    have rowk : ∀ b, b < 4 → fst9 Q k k b = Q k b := fun b hb => by
      show mn9 (Q k b) (Q k k + Q k b) = _
      rw [hkk]; unfold mn9; rw [if_neg (by omega)]
    have colk : ∀ a, a < 4 → fst9 Q k a k = Q a k := fun a ha => by
      show mn9 (Q a k) (Q a k + Q k k) = _
      rw [hkk]; unfold mn9; rw [if_neg (by omega)]
    induction j with
    | zero =>
      intro v s1 v3 w4 hv h3 ht hc
      have e : v = 4 := by omega
      subst e
      refine f51_34 ⟨fun _ => ?_, fun z => absurd (by omega) z⟩
      rw [zu ()]
      refine out s1 _ _ (fun a b ha hb => ?_) hc
      rw [ht a b ha hb]
      by_cases e : a < u + 1
      · rw [if_pos e, if_pos (by omega)]
      · rw [if_neg e, if_neg (by omega)]
    | succ j ih =>
      intro v s1 v3 w4 hv h3 ht hc
      subst h3
      have zv : ∀ _ : Unit, zw ((v : Nat) + 1) = ((v + 1 : Nat) : Int) := fun _ => by rw [zw_id (by omega) (by omega)]; omega
      have zi : ∀ a b : Nat, a < 4 → b < 4 → zw (zw (4 * (a : Nat)) + (b : Nat)) = 4 * (a : Nat) + (b : Nat) := fun a b ha hb => by rw [zw_id (x := 4 * ((a : Nat) : Int)) (by omega) (by omega), zw_id (by omega) (by omega)]
      have euk : s1 60 (4 * (u : Nat) + (k : Nat)) = Q u k := by
        rw [ht u k hu hk]
        split
        · exact colk u hu
        · rfl
      have ekv : s1 60 (4 * (k : Nat) + (v : Nat)) = Q k v := by
        rw [ht k v hk (by omega)]
        split
        · exact rowk v (by omega)
        · rfl
      have euv : s1 60 (4 * (u : Nat) + (v : Nat)) = Q u v := by rw [ht u v hu (by omega), if_neg (by omega)]
      have q1 := hF.1 u k hu hk
      have q2 := hF.1 k v hk (by omega)
      have r1 := RW_rng w t u k
      have r2 := RW_rng w t k v
      refine f51_34 ⟨fun z => absurd z (by omega), fun _ => ?_⟩
      rw [zi u k hu hk, zi k v hk (by omega), zi u v hu (by omega), euk, ekv, euv, zv ()]
      refine ⟨by omega, by omega, by omega, i231 (by omega) ⟨by omega, ?_⟩⟩
      refine ih (v + 1) _ _ _ (by omega) rfl (fun a b ha hb => ?_) (fun c hc2 => by rw [zune _ _ _ hc2]; exact hc c hc2)
      rw [zg]
      by_cases e : a = u ∧ b = v
      · rw [if_pos ⟨rfl, by omega⟩, zw_id (by omega) (by omega), if_pos (show a < u ∨ a = u ∧ b < v + 1 from by omega), e.1, e.2]
        rfl
      · rw [if_neg (fun q => e (by omega)), ht a b ha hb]
        by_cases e2 : a < u ∨ a = u ∧ b < v
        · rw [if_pos e2, if_pos (by omega)]
        · rw [if_neg e2, if_neg (by omega)]
  have lu : ∀ (Q : Nat → Nat → Int) (k : Nat), FW w t Q k → k < 4 → (∀ (s1 : Pl) (w2 w3 w4 : Option AV), tb s1 60 (fst9 Q k) → (∀ c, c ≠ 60 → s1 c = s c) → Fr xs L T0 106 (d - 1) 51 20 [some (rf 58), some (it ((k + 1 : Nat) : Int)), w2, w3, w4] [] s1 (qv P)) → ∀ (j u : Nat) (s1 : Pl) (v2 : Int) (w3 w4 : Option AV), u + j = 4 → v2 = (u : Nat) → (∀ a b : Nat, a < 4 → b < 4 → s1 60 (4 * a + b) = if a < u then fst9 Q k a b else Q a b) → (∀ c, c ≠ 60 → s1 c = s c) → Fr xs L T0 106 (d - 1) 51 27 [some (rf 58), some (it (k : Nat)), some (it v2), w3, w4] [] s1 (qv P) := by
    intro Q k hF hk out j
    have zk : ∀ _ : Unit, zw ((k : Nat) + 1) = ((k + 1 : Nat) : Int) := fun _ => by rw [zw_id (by omega) (by omega)]; omega
    induction j with
    | zero =>
      intro u s1 v2 w3 w4 hu h2 ht hc
      have e : u = 4 := by omega
      subst e
      refine f51_27 ⟨fun _ => ?_, fun z => absurd (by omega) z⟩
      rw [zk ()]
      exact out s1 _ _ _ (fun a b ha hb => by rw [ht a b ha hb, if_pos ha]) hc
    | succ j ih =>
      intro u s1 v2 w3 w4 hu h2 ht hc
      subst h2
      refine f51_27 ⟨fun z => absurd z (by omega), fun _ => ?_⟩
      refine lv Q k u hF hk (by omega) (fun s2 v3 w5 h5 h6 => ih (u + 1) s2 _ _ _ (by omega) rfl h5 h6) 4 0 s1 _ _ (by omega) rfl (fun a b ha hb => ?_) hc
      rw [ht a b ha hb]
      by_cases e : a < u
      · rw [if_pos e, if_pos (by omega)]
      · rw [if_neg e, if_neg (by omega)]
  have lk : ∀ (j k : Nat) (Q : Nat → Nat → Int) (s1 : Pl) (v1 : Int) (w2 w3 w4 : Option AV), k + j = 4 → v1 = (k : Nat) → FW w t Q k → tb s1 60 Q → (∀ c, c ≠ 60 → s1 c = s c) → Fr xs L T0 106 (d - 1) 51 20 [some (rf 58), some (it v1), w2, w3, w4] [] s1 (qv P) := by
    intro j
    induction j with
    | zero =>
      intro k Q s1 v1 w2 w3 w4 hk h1 hF ht hc
      have e : k = 4 := by omega
      subst e
      exact f51_20 ⟨fun _ => h s1 Q hF.ds ht hc, fun z => absurd (by omega) z⟩
    | succ j ih =>
      intro k Q s1 v1 w2 w3 w4 hk h1 hF ht hc
      subst h1
      refine f51_20 ⟨fun z => absurd z (by omega), fun _ => ?_⟩
      exact lu Q k hF (by omega) (fun s2 w2 w3 w4 h5 h6 => ih (k + 1) _ s2 _ _ _ _ (by omega) rfl (hF.next (by omega)) h5 h6) 4 0 s1 _ _ _ (by omega) rfl (fun a b ha hb => by rw [ht a b ha hb, if_neg (by omega)]) hc
  refine e51 (by omega) (f51_0 ⟨by decide, ?_⟩)
  refine lk 4 0 (RW w t) _ _ _ _ _ (by omega) rfl ⟨fun a b ha hb => ⟨(RW_rng w t a b).1, Int.le_refl _, ?_⟩, fun m hm => absurd hm (by omega)⟩ (fun a b ha hb => ?_) (fun c hc => ?_)
  · by_cases e : a = b
    · subst e
      exact ⟨0, rfl, by simp [RW]⟩
    · exact ⟨1, a, 0, ⟨rfl, rfl⟩, ha, e, hb, by omega⟩
  · show (if 60 = 60 then fun b => if 0 ≤ b ∧ b < 0 + 16 then s 59 (0 + (b - 0)) else s 60 b else s 60) (4 * (a : Int) + b) = RW w t a b
    rw [if_pos rfl]
    show (if 0 ≤ 4 * (a : Int) + b ∧ 4 * (a : Int) + b < 0 + 16 then s 59 (0 + (4 * (a : Int) + b - 0)) else s 60 _) = _
    rw [if_pos (by omega), show 0 + (4 * (a : Int) + (b : Int) - 0) = 4 * (a : Int) + b from by omega, hl.2.2.1 a b ha hb]
    rfl
  · unfold zcopy
    rw [if_neg hc]
