/-! what a law says of the lake, as tables -/
def fLn (t : Nat) (s s1 : Pl) : Prop := ∀ c i, c ≠ 58 → c ≠ 24 + 4 * t → c ≠ 59 → c ≠ 61 → (c = 57 → i ≠ 1 ∧ (i < 6 ∨ 10 < i)) → s1 c i = s c i
def Lr0 (w : Pl) (t n : Nat) (s : Pl) : Prop := s 57 1 = ((21 + 4 * t + 1 : Nat) : Int) ∧ (s 57 6 = (btn (fun p => uA (w 3 p) 1) n : Nat) ∧ s 57 7 = (btn (fun p => uA (w 3 p) 2) n : Nat) ∧ s 57 8 = (btn (fun p => uA (w 3 p) 3) n : Nat) ∧ s 57 9 = (btn (fun p => uA (w 3 p) 4) n : Nat) ∧ s 57 10 = (btn (fun p => uA (w 3 p) 5) n : Nat))
theorem Lr0.cong {w s s1 : Pl} {t n : Nat} (h : s1 57 = s 57) (v : Lr0 w t n s) : Lr0 w t n s1 := by
  unfold Lr0 at *
  rw [h]
  exact v
theorem fLn.trans {t : Nat} {s s1 s2 : Pl} (h : fLn t s s1) (h2 : fLn t s1 s2) : fLn t s s2 := fun c i a b e f g => by rw [h2 c i a b e f g, h c i a b e f g]
theorem kL.fLn {t : Nat} {s s1 : Pl} (h : kL t s s1) : fLn t s s1 := fun c i a b _ _ _ => h c i a b
theorem stc_out {c : Nat} (h : stc c = true) : 1 ≤ c ∧ c ≤ 9 ∨ 22 ≤ c ∧ c ≤ 43 ∧ (c % 4 = 2 ∨ c % 4 = 3) := by
  unfold stc at h
  simp at h
  omega
theorem sW.fLn {t : Nat} {w s s1 : Pl} (hw : sW w s) (h : fLn t s s1) : sW w s1 := fun c hc => by
  rw [← hw c hc]
  have := stc_out hc
  exact funext fun i => h c i (by omega) (by omega) (by omega) (by omega) (by omega)
variable {xs : Nat → Int} {L : Nat} {d : Nat} {s : Pl}
theorem i36w {w : Pl} {t n : Nat} {p q l : Nat} {P : Int → Pl → Prop} (hd : 4 ≤ d) (hk : wOk w t n) (hw : sW w s) (hl : s 57 1 = ((21 + 4 * t + 1 : Nat) : Int)) (h : ∀ s2 : Pl, kL t s s2 → P (if mayV w t p q l = true then 1 else 0) s2) : Ev xs L T0 106 d 36 [rf 58, it (p : Nat), it (q : Nat), it (l : Nat)] s (qi P) := by
  obtain ⟨ht, hg⟩ := hk.2.1
  have e1 := hw _ (stc22 t ht).1
  have e2 := hw _ (stc22 t ht).2
  refine i36 ht hd hl (by rw [e1, e2]; exact hg) fun s2 hs2 => ?_
  have h9 := h s2 hs2
  rw [e1, e2]
  unfold mayV at h9
  by_cases a : lawV (w (22 + 4 * t)) (w (23 + 4 * t)) (nm6 p q l 0 0 0) 0 = 0
  · rw [if_pos a]; rw [if_neg (by simp [a])] at h9; exact h9
  · rw [if_neg a]; rw [if_pos (by simp [a])] at h9; exact h9
theorem i37w {w : Pl} {t n : Nat} {u v : Nat} {P : Int → Pl → Prop} (hd : 4 ≤ d) (hk : wOk w t n) (hw : sW w s) (hu : u < 4) (hv : v < 4) (hl : s 57 1 = ((21 + 4 * t + 1 : Nat) : Int)) (h : ∀ s2 : Pl, kL t s s2 → P (rowV w t u v) s2) : Ev xs L T0 106 d 37 [rf 58, it (u : Nat), it (v : Nat)] s (qi P) := by
  obtain ⟨ht, hg⟩ := hk.2.1
  have e1 := hw _ (stc22 t ht).1
  have e2 := hw _ (stc22 t ht).2
  refine i37 ht hd (by omega) (by omega) hl (by rw [e1, e2]; exact hg) fun s2 hs2 => ?_
  rw [e1, e2, hw 9 rfl]
  exact h s2 hs2
theorem kL.refl (t : Nat) (s : Pl) : kL t s s := fun _ _ _ _ => rfl
theorem kL.trans {t : Nat} {s s1 s2 : Pl} (h : kL t s s1) (h2 : kL t s1 s2) : kL t s s2 := fun c i a b => by rw [h2 c i a b, h c i a b]
theorem i35 {w : Pl} {t n : Nat} {p q : Nat} {P : Int → Pl → Prop} (hd : 5 ≤ d) (hk : wOk w t n) (hw : sW w s) (hl : s 57 1 = ((21 + 4 * t + 1 : Nat) : Int)) (h : ∀ s2 : Pl, kL t s s2 → P ((btn (fun l => mayV w t p q l) 4 : Nat) : Int) s2) : Ev xs L T0 106 d 35 [rf 58, it (p : Nat), it (q : Nat)] s (qi P) := by
  have l : ∀ (j k : Nat) (s1 : Pl) (v3 v4 : Int), k + j = 4 → v4 = (k : Nat) → v3 = ((btn (fun l => mayV w t p q l) k : Nat) : Int) → kL t s s1 → Fr xs L T0 106 (d - 1) 35 5 [some (rf 58), some (it (p : Nat)), some (it (q : Nat)), some (it v3), some (it v4)] [] s1 (qi P) := by
    intro j
    induction j with
    | zero =>
      intro k s1 v3 v4 hk9 h4 h3 hs1
      have : k = 4 := by omega
      subst this
      exact f35_5 ⟨fun _ => by rw [h3]; exact h s1 hs1, fun z => absurd (by omega) z⟩
    | succ j ih =>
      intro k s1 v3 v4 hk9 h4 h3 hs1
      subst h4
      have z3 : zw ((k : Nat) + 1) = ((k + 1 : Nat) : Int) := by rw [zw_id (by omega) (by omega)]; omega
      have ht := hk.2.1.1
      refine f35_5 ⟨fun z => absurd z (by omega), fun _ => i36w (by omega) hk (hw.fLn hs1.fLn) (by rw [hs1 57 1 (by decide) (by omega)]; exact hl) fun s2 hs2 => ?_⟩
      by_cases g : mayV w t p q k = true
      · rw [if_pos g]
        refine ⟨fun z => absurd z (by decide), fun _ => f35_29 ?_⟩
        rw [z3]
        refine ih (k + 1) s2 _ _ (by omega) rfl ?_ (hs1.trans hs2)
        rw [h3, zor_bitL k (by omega) _ (btn_lt _ k)]
        simp only [btn]
        rw [if_pos g]
      · rw [if_neg g]
        refine ⟨fun _ => f35_29 ?_, fun z => absurd rfl z⟩
        rw [z3]
        refine ih (k + 1) s2 _ _ (by omega) rfl ?_ (hs1.trans hs2)
        rw [h3]
        simp only [btn]
        rw [if_neg g]
        rfl
  exact e35 (by omega) (f35_0 (l 4 0 s _ _ rfl rfl rfl (kL.refl t s)))
theorem Lr0.kL {w s s1 : Pl} {t n : Nat} (ht : t < 6) (h : kL t s s1) (v : Lr0 w t n s) : Lr0 w t n s1 := v.cong (funext fun i => h 57 i (by decide) (by omega))
def Lr1 (w : Pl) (t u v : Nat) (s : Pl) : Prop := ∀ a b : Nat, a < 4 → b < 4 → (a < u ∨ a = u ∧ b < v) → s 59 (4 * a + b) = if a = b then 0 else rowV w t a b
def Lr2 (w : Pl) (t n u v : Nat) (s : Pl) : Prop := ∀ a b : Nat, a < n → b < n → (a < u ∨ a = u ∧ b < v) → s 61 (6 * a + b) = if a = b then 0 else ((btn (fun l => mayV w t a b l) 4 : Nat) : Int)
theorem l34q {w : Pl} {t n : Nat} {P : Pl → Prop} (hd : 5 ≤ d) (hk : wOk w t n) (s0 : Pl) (hw : sW w s0) (u : Nat) (hu : u < n) (k : ∀ s1 : Pl, Lr0 w t n s1 → Lr1 w t 4 0 s1 → Lr2 w t n (u + 1) 0 s1 → fLn t s0 s1 → ∀ v3 : Int, Fr xs L T0 106 d 34 186 [some (rf 58), some (rf (21 + 4 * t + 1)), some (it (u : Nat)), some (it v3)] [] s1 (qv P)) : ∀ (j v : Nat) (s : Pl) (v3 : Int), v + j = n → v3 = (v : Nat) → Lr0 w t n s → Lr1 w t 4 0 s → Lr2 w t n u v s → fLn t s0 s → Fr xs L T0 106 d 34 137 [some (rf 58), some (rf (21 + 4 * t + 1)), some (it (u : Nat)), some (it v3)] [] s (qv P) := by
  have ht := hk.2.1.1
  have hn := hk.1.2
  have e11 : ∀ s1, fLn t s0 s1 → s1 1 1 = (n : Nat) := fun s1 h => by rw [(hw.fLn h) 1 rfl]; exact hk.1.1
  intro j
  induction j with
  | zero =>
    intro v s v3 hv h3 b0 b1 b2 b3
    have : v = n := by omega
    subst this
    refine f34_137 ht ⟨fun _ => k s b0 b1 (fun a b ha hb hab => b2 a b ha hb (by omega)) b3 v3, fun z => absurd (by rw [e11 s b3]; omega) z⟩
  | succ j ih =>
    intro v s v3 hv h3 b0 b1 b2 b3
    have z3 : zw (v3 + 1) = ((v + 1 : Nat) : Int) := by rw [zw_id (by omega) (by omega)]; omega
    have z6 : zw (zw (6 * (u : Nat)) + v3) = 6 * (u : Nat) + (v : Nat) := by rw [zw_id (x := 6 * ((u : Nat) : Int)) (by omega) (by omega), zw_id (by omega) (by omega)]; omega
    have st : ∀ (s1 : Pl) (r : Int), kL t s s1 → r = (if u = v then 0 else ((btn (fun l => mayV w t u v l) 4 : Nat) : Int)) → Fr xs L T0 106 d 34 179 [some (rf 58), some (rf (21 + 4 * t + 1)), some (it (u : Nat)), some (it v3)] [it r, it (zw (zw (6 * (u : Nat)) + v3)), rf 62] s1 (qv P) := by
      intro s1 r hs1 hr
      refine f34_179 ht ⟨by omega, ?_⟩
      rw [z3, z6]
      refine ih (v + 1) _ _ (by omega) rfl ((b0.kL ht hs1).cong (zune _ _ _ (by decide))) ?_ ?_ ?_
      · intro a b ha hb hab
        rw [zune _ _ _ (by decide), hs1 59 _ (by decide) (by omega)]
        exact b1 a b ha hb hab
      · intro a b ha hb hab
        rw [zg]
        by_cases e : a = u ∧ b = v
        · rw [if_pos ⟨rfl, by omega⟩, hr, e.1, e.2]
        · rw [if_neg (fun z => e (by omega)), hs1 61 _ (by decide) (by omega)]
          exact b2 a b ha hb (by omega)
      · intro c i c1 c2 c3 c4 c5
        rw [zune _ _ _ c4, hs1 c i c1 c2]
        exact b3 c i c1 c2 c3 c4 c5
    refine f34_137 ht ⟨fun z => absurd z (by rw [e11 s b3]; omega), fun _ => ⟨fun z => absurd z (by omega), fun _ => ⟨fun a => ?_, fun a => ?_⟩⟩⟩
    · rw [h3]
      rw [h3] at st
      refine i35 (by omega) hk (hw.fLn b3) b0.1 fun s1 hs1 => st s1 _ hs1 ?_
      rw [if_neg (by omega)]
    · refine st s 0 (kL.refl t s) ?_
      rw [if_pos (by omega)]
theorem l34p {w : Pl} {t n : Nat} {P : Pl → Prop} (hd : 5 ≤ d) (hk : wOk w t n) (s0 : Pl) (hw : sW w s0) (h : ∀ s1 : Pl, Lrn w t n s1 → fLn t s0 s1 → P s1) : ∀ (j u : Nat) (s : Pl) (v2 : Int) (w3 : Option AV), u + j = n → v2 = (u : Nat) → Lr0 w t n s → Lr1 w t 4 0 s → Lr2 w t n u 0 s → fLn t s0 s → Fr xs L T0 106 d 34 118 [some (rf 58), some (rf (21 + 4 * t + 1)), some (it v2), w3] [] s (qv P) := by
  have ht := hk.2.1.1
  have hn := hk.1.2
  have e11 : ∀ s1, fLn t s0 s1 → s1 1 1 = (n : Nat) := fun s1 h => by rw [(hw.fLn h) 1 rfl]; exact hk.1.1
  intro j
  induction j with
  | zero =>
    intro u s v2 w3 hu h2 b0 b1 b2 b3
    refine f34_118 ht ⟨fun _ => h s ⟨b0.1, b0.2, fun a b ha hb => b1 a b ha hb (by omega), fun a b ha hb => b2 a b ha hb (by omega)⟩ b3, fun z => absurd (by rw [e11 s b3]; omega) z⟩
  | succ j ih =>
    intro u s v2 w3 hu h2 b0 b1 b2 b3
    refine f34_118 ht ⟨fun z => absurd z (by rw [e11 s b3]; omega), fun _ => ⟨fun z => absurd z (by omega), fun _ => ?_⟩⟩
    rw [h2]
    refine l34q hd hk s0 hw u (by omega) (fun s1 c0 c1 c2 c3 v3 => f34_186 ht ?_) n 0 s _ (by omega) rfl b0 b1 b2 b3
    refine ih (u + 1) s1 _ _ (by omega) ?_ c0 c1 c2 c3
    rw [zw_id (by omega) (by omega)]; omega
theorem l34v {w : Pl} {t n : Nat} {P : Pl → Prop} (hd : 5 ≤ d) (hk : wOk w t n) (s0 : Pl) (hw : sW w s0) (u : Nat) (hu : u < 4) (k : ∀ s1 : Pl, Lr0 w t n s1 → Lr1 w t (u + 1) 0 s1 → fLn t s0 s1 → ∀ v3 : Int, Fr xs L T0 106 d 34 67 [some (rf 58), some (rf (21 + 4 * t + 1)), some (it ((u + 1 : Nat) : Int)), some (it v3)] [] s1 (qv P)) : ∀ (j v : Nat) (s : Pl) (v3 : Int), v + j = 4 → v3 = (v : Nat) → Lr0 w t n s → Lr1 w t u v s → fLn t s0 s → Fr xs L T0 106 d 34 74 [some (rf 58), some (rf (21 + 4 * t + 1)), some (it (u : Nat)), some (it v3)] [] s (qv P) := by
  have ht := hk.2.1.1
  have zu : zw ((u : Nat) + 1) = ((u + 1 : Nat) : Int) := by rw [zw_id (by omega) (by omega)]; omega
  intro j
  induction j with
  | zero =>
    intro v s v3 hv h3 b0 b1 b3
    refine f34_74 ht ⟨fun _ => ?_, fun z => absurd (by omega) z⟩
    rw [zu]
    exact k s b0 (fun a b ha hb hab => b1 a b ha hb (by omega)) b3 v3
  | succ j ih =>
    intro v s v3 hv h3 b0 b1 b3
    have z3 : zw (v3 + 1) = ((v + 1 : Nat) : Int) := by rw [zw_id (by omega) (by omega)]; omega
    have z6 : zw (zw (4 * (u : Nat)) + v3) = 4 * (u : Nat) + (v : Nat) := by rw [zw_id (x := 4 * ((u : Nat) : Int)) (by omega) (by omega), zw_id (by omega) (by omega)]; omega
    have st : ∀ (s1 : Pl) (r : Int), kL t s s1 → r = (if u = v then 0 else rowV w t u v) → Fr xs L T0 106 d 34 103 [some (rf 58), some (rf (21 + 4 * t + 1)), some (it (u : Nat)), some (it v3)] [it r, it (zw (zw (4 * (u : Nat)) + v3)), rf 60] s1 (qv P) := by
      intro s1 r hs1 hr
      refine f34_103 ht ⟨by omega, ?_⟩
      rw [z3, z6]
      refine ih (v + 1) _ _ (by omega) rfl ((b0.kL ht hs1).cong (zune _ _ _ (by decide))) ?_ ?_
      · intro a b ha hb hab
        rw [zg]
        by_cases e : a = u ∧ b = v
        · rw [if_pos ⟨rfl, by omega⟩, hr, e.1, e.2]
        · rw [if_neg (fun z => e (by omega)), hs1 59 _ (by decide) (by omega)]
          exact b1 a b ha hb (by omega)
      · intro c i c1 c2 c3 c4 c5
        rw [zune _ _ _ c3, hs1 c i c1 c2]
        exact b3 c i c1 c2 c3 c4 c5
    refine f34_74 ht ⟨fun z => absurd z (by omega), fun _ => ⟨fun a => ?_, fun a => ?_⟩⟩
    · rw [h3]
      rw [h3] at st
      refine i37w (by omega) hk (hw.fLn b3) hu (by omega) b0.1 fun s1 hs1 => st s1 _ hs1 ?_
      rw [if_neg (by omega)]
    · refine st s 0 (kL.refl t s) ?_
      rw [if_pos (by omega)]
theorem l34u {w : Pl} {t n : Nat} {P : Pl → Prop} (hd : 5 ≤ d) (hk : wOk w t n) (s0 : Pl) (hw : sW w s0) (h : ∀ s1 : Pl, Lrn w t n s1 → fLn t s0 s1 → P s1) : ∀ (j u : Nat) (s : Pl) (v2 : Int) (w3 : Option AV), u + j = 4 → v2 = (u : Nat) → Lr0 w t n s → Lr1 w t u 0 s → fLn t s0 s → Fr xs L T0 106 d 34 67 [some (rf 58), some (rf (21 + 4 * t + 1)), some (it v2), w3] [] s (qv P) := by
  have ht := hk.2.1.1
  intro j
  induction j with
  | zero =>
    intro u s v2 w3 hu h2 b0 b1 b3
    have : u = 4 := by omega
    subst this
    refine f34_67 ht ⟨fun _ => l34p hd hk s0 hw h n 0 s _ _ (by omega) rfl b0 b1 (fun a b ha hb hab => absurd hab (by omega)) b3, fun z => absurd (by omega) z⟩
  | succ j ih =>
    intro u s v2 w3 hu h2 b0 b1 b3
    refine f34_67 ht ⟨fun z => absurd z (by omega), fun _ => ?_⟩
    rw [h2]
    exact l34v hd hk s0 hw u (by omega) (fun s1 c0 c1 c3 v3 => ih (u + 1) s1 _ _ (by omega) rfl c0 c1 c3) 4 0 s _ (by omega) rfl b0 b1 b3
theorem i34 {w : Pl} {t n : Nat} {P : Pl → Prop} (hd : 6 ≤ d) (hk : wOk w t n) (hw : sW w s) (h : ∀ s1 : Pl, Lrn w t n s1 → fLn t s s1 → P s1) : Ev xs L T0 106 d 34 [rf 58, rf (21 + 4 * t + 1)] s (qv P) := by
  have ht := hk.2.1.1
  have q7 : ∀ (s1 : Pl) (l : Int) (P2 : Int → Pl → Prop), (∀ c, c ≠ 57 → s1 c = s c) → P2 ((btn (fun p => uA (w 3 p) l) n : Nat) : Int) s1 → Ev xs L T0 106 (d - 1) 7 [rf 2, it l] s1 (qi P2) := by
    intro s1 l P2 hs1 hp
    have e3 : s1 3 = w 3 := by rw [hs1 3 (by decide), hw 3 rfl]
    refine (m7 n (by rw [hs1 1 (by decide), hw 1 rfl]; exact hk.1.1) hk.1.2 ?_ (by omega)).i ?_
    · intro p h0 h1
      have := (hk.2.2.1 p.toNat (by omega)).1
      rw [e3]
      rw [show ((p.toNat : Nat) : Int) = p from by omega] at this
      exact this
    · rintro r s2 ⟨rfl, rfl⟩
      rw [e3]
      exact hp
  refine e34 (by omega) (f34_0 ht ?_)
  refine q7 _ _ _ (fun c hc => zune _ _ _ hc) ?_
  refine q7 _ _ _ (fun c hc => by rw [zune _ _ _ hc, zune _ _ _ hc]) ?_
  refine q7 _ _ _ (fun c hc => by rw [zune _ _ _ hc, zune _ _ _ hc, zune _ _ _ hc]) ?_
  refine q7 _ _ _ (fun c hc => by rw [zune _ _ _ hc, zune _ _ _ hc, zune _ _ _ hc, zune _ _ _ hc]) ?_
  refine q7 _ _ _ (fun c hc => by rw [zune _ _ _ hc, zune _ _ _ hc, zune _ _ _ hc, zune _ _ _ hc, zune _ _ _ hc]) ?_
  refine l34u (by omega) hk s hw h 4 0 _ _ _ rfl rfl ⟨?_, ?_, ?_, ?_, ?_, ?_⟩ (fun a b ha hb hab => absurd hab (by omega)) ?_
  · simp [zg]
  · simp [zg]
  · simp [zg]
  · simp [zg]
  · simp [zg]
  · simp [zg]
  · intro c i c1 c2 c3 c4 c5
    by_cases e : c = 57
    · have := c5 e
      rw [zg, if_neg (by omega), zg, if_neg (by omega), zg, if_neg (by omega), zg, if_neg (by omega), zg, if_neg (by omega), zg, if_neg (by omega)]
    · rw [zune _ _ _ e, zune _ _ _ e, zune _ _ _ e, zune _ _ _ e, zune _ _ _ e, zune _ _ _ e]
