/-! the reference's text -/
section TXM
variable {xs : Nat → Int} {L : Nat} {d : Nat} {s s0 : Pl} {f : Int → Int} {m : Nat}
theorem tM.end (h : tM f m s0) (k v : Int) : tM f m (zup s0 84 k v) := h.cong (by rw [zg, if_neg (by omega)]) (by rw [zune _ _ _ (by decide)]) (by rw [zune _ _ _ (by decide)]) (by rw [zune _ _ _ (by decide)])
theorem rM.end {o : Int} {x : TxS} (h : rM s0 o x s) (k v : Int) : rM (zup s0 84 k v) o x (zup s 84 k v) := by
  obtain ⟨⟨h1, h2, h3, h4, h5, h6⟩, h7, h8⟩ := h
  refine ⟨⟨by rw [zg, if_neg (by omega), h1], by rw [zg, if_neg (by omega), h2], by rw [zg, if_neg (by omega), zg, if_neg (by omega)]; exact h3, by rw [zg, if_neg (by omega), h4], by rw [zg, if_neg (by omega), h5], by rw [zg, if_neg (by omega), h6]⟩, fun k hk => ?_, fun c i hc => ?_⟩
  · rw [zg, if_neg (by omega), zg, if_neg (by omega)]; exact h7 k hk
  · rw [zg, zg, h8 c i hc]
theorem m158 (hd : 54 ≤ d) (hb : tM f m s0) {k : Int} (hk : 0 ≤ k ∧ k < 3) {x : TxS} (hw : wfS m x) (h : rM s0 0 x s) {P : Pl → Prop} (k1 : ∀ z s1, ptG (stepT f m) k x = .inl z → rM (zup s0 84 (18 + k) ((z.l : Nat) : Int)) 0 z s1 → P s1) (k0 : ∀ p s1, ptG (stepT f m) k x = .inr p → nM s0 168 p s1 → P s1) : Ev xs L T0 106 d 158 [rf 73, it k] s (qv P) := by
  have hm := hb.1.2
  have w1 := hw.1
  have w2 := hw.2.1
  have w4 := hw.2.2.2.1
  refine e158 (by omega) (f158_0 ?_)
  rw [zw_id (x := 10 + k) (by omega) (by omega)]
  refine m149 (by omega) h hw (by omega) (fun q => ⟨fun _ => ?_, fun g => absurd (show ¬ (1 : Int) = 0 by decide) g⟩) (fun q => ⟨fun g => absurd rfl g, fun _ => m147 (by omega) h (fun s3 r3 => k0 x.p s3 (by unfold ptG; rw [if_neg (by omega)]) (r3.up (by omega)))⟩)
  have w3 := hw.2.2.1 (by omega)
  have st := stepT_ok (f := f) (x := x) w2 (by omega)
  have s2p := st.2.1
  have s2l := st.2.2.1
  have eq : ptG (stepT f m) k x = bnd (eG (stepT f m) (lvG (stepT f m) 5).2 (stepT f m x)) fun y => if y.tk = 59 then .inl (stepT f m y) else .inr y.p := by unfold ptG; rw [if_pos (by omega)]
  rw [eq] at k1 k0
  refine m146 (by omega) hb h w2 (fun s1 r1 => m152e hb (by omega) _ _ _ st.1 r1 (fun y s2 ey r2 => ?_) (fun p s2 ep r2 => ?_))
  · have g := Gz_e (f := f) (m := m) 5 _ st.1
    rw [ey] at g k1 k0
    have y1 := g.1.1
    have y2 := g.1.2.1
    have y4 := g.1.2.2.2.1
    refine m148 (by omega) r2 g.1 (by decide) (fun q => ⟨fun _ => ?_, fun g => absurd (show ¬ (1 : Int) = 0 by decide) g⟩) (fun q => ⟨fun g => absurd rfl g, fun _ => m147 (by omega) r2 (fun s3 r3 => k0 y.p s3 (by show (if y.tk = 59 then _ else _) = _; rw [if_neg q]) (r3.up (by omega)))⟩)
    refine m146 (by omega) hb r2 g.1.2.1 (fun s3 r3 => ?_)
    rw [zw_id (x := 18 + k) (by omega) (by omega), r3.1.2.2.2.1]
    exact ⟨by omega, k1 _ _ (by show (if y.tk = 59 then _ else _) = _; rw [if_pos q]) (r3.end _ _)⟩
  · have g := Gz_e (f := f) (m := m) 5 _ st.1
    rw [ep] at g k0
    have := g.1
    have := g.2
    exact m148n (by omega) r2 ⟨fun g => absurd rfl g, fun _ => m147n (by omega) r2 (k0 p s2 rfl (r2.up (by omega)))⟩
/-- what stands behind a copy of what was read -/
def CP (t k : Nat) (s1 s2 : Pl) : Prop := ∀ c i, s2 c i = if (c = 82 ∨ c = 83) ∧ 170 * ((t : Nat) : Int) ≤ i ∧ i < 170 * ((t : Nat) : Int) + ((k : Nat) : Int) then s1 c (1020 + (i - 170 * ((t : Nat) : Int))) else s1 c i
def CE (t k : Nat) (s1 s2 : Pl) : Prop := ∀ c i, s2 c i = if c = 84 ∧ 3 * ((t : Nat) : Int) ≤ i ∧ i < 3 * ((t : Nat) : Int) + ((k : Nat) : Int) then s1 c (18 + (i - 3 * ((t : Nat) : Int))) else s1 c i
theorem CP.step {t k : Nat} {s1 s2 : Pl} (ht : t < 6) (hk : k < 169) (h : CP t k s1 s2) : CP t (k + 1) s1 (zup (zup s2 82 (170 * ((t : Nat) : Int) + ((k : Nat) : Int)) (s2 82 (1020 + ((k : Nat) : Int)))) 83 (170 * ((t : Nat) : Int) + ((k : Nat) : Int)) (s2 83 (1020 + ((k : Nat) : Int)))) := by
  intro c i
  rw [zg]
  by_cases e : c = 83 ∧ i = 170 * ((t : Nat) : Int) + ((k : Nat) : Int)
  · rw [if_pos e, if_pos (by omega), h 83 _, if_neg (by omega), e.1, show i - 170 * ((t : Nat) : Int) = ((k : Nat) : Int) from by omega]
  · rw [if_neg e, zg]
    by_cases e2 : c = 82 ∧ i = 170 * ((t : Nat) : Int) + ((k : Nat) : Int)
    · rw [if_pos e2, if_pos (by omega), h 82 _, if_neg (by omega), e2.1, show i - 170 * ((t : Nat) : Int) = ((k : Nat) : Int) from by omega]
    · rw [if_neg e2, h c i]
      by_cases e3 : (c = 82 ∨ c = 83) ∧ 170 * ((t : Nat) : Int) ≤ i ∧ i < 170 * ((t : Nat) : Int) + ((k : Nat) : Int)
      · rw [if_pos e3, if_pos (by omega)]
      · rw [if_neg e3, if_neg (by omega)]
theorem CE.step {t k : Nat} {s1 s2 : Pl} (ht : t < 6) (hk : k < 3) (h : CE t k s1 s2) : CE t (k + 1) s1 (zup s2 84 (3 * ((t : Nat) : Int) + ((k : Nat) : Int)) (s2 84 (18 + ((k : Nat) : Int)))) := by
  intro c i
  rw [zg]
  by_cases e : c = 84 ∧ i = 3 * ((t : Nat) : Int) + ((k : Nat) : Int)
  · rw [if_pos e, if_pos (by omega), h 84 _, if_neg (by omega), e.1, show i - 3 * ((t : Nat) : Int) = ((k : Nat) : Int) from by omega]
  · rw [if_neg e, h c i]
    by_cases e3 : c = 84 ∧ 3 * ((t : Nat) : Int) ≤ i ∧ i < 3 * ((t : Nat) : Int) + ((k : Nat) : Int)
    · rw [if_pos e3, if_pos (by omega)]
    · rw [if_neg e3, if_neg (by omega)]
theorem l159b {t : Nat} (ht : t < 6) {s1 : Pl} (h13 : s1 72 13 = ((t : Nat) : Int)) {P : Int → Pl → Prop} (h : ∀ s2, CE t 3 s1 s2 → P ((t : Nat) : Int) (zup s2 72 13 ((t + 1 : Nat) : Int))) : ∀ (j k : Nat) (s2 : Pl), k + j = 3 → CE t k s1 s2 → Fr xs L T0 106 d 159 168 [some (rf 73), some (it ((k : Nat) : Int))] [] s2 (qi P) := by
  intro j
  induction j with
  | zero =>
    intro k s2 hk hc
    obtain rfl : k = 3 := hk
    have e13 : s2 72 13 = ((t : Nat) : Int) := by rw [hc 72 13, if_neg (by omega), h13]
    refine f159_168 ?_
    rw [e13, zw_id (x := ((t : Nat) : Int) + 1) (by omega) (by omega)]
    have e14 : zup s2 72 13 (((t : Nat) : Int) + 1) 72 13 = ((t : Nat) : Int) + 1 := by rw [zg, if_pos ⟨rfl, rfl⟩]
    rw [e14, zw_id (by omega) (by omega), show ((t : Nat) : Int) + 1 - 1 = ((t : Nat) : Int) from by omega]
    exact ⟨fun _ => h s2 hc, fun g => absurd (by decide) g⟩
  | succ j ih =>
    intro k s2 hk hc
    have e13 : s2 72 13 = ((t : Nat) : Int) := by rw [hc 72 13, if_neg (by omega), h13]
    refine f159_168 ?_
    have z1 : ∀ _ : Unit, zw (3 * ((t : Nat) : Int)) = 3 * ((t : Nat) : Int) := fun _ => zw_id (by omega) (by omega)
    have z2 : ∀ _ : Unit, zw (3 * ((t : Nat) : Int) + ((k : Nat) : Int)) = 3 * ((t : Nat) : Int) + ((k : Nat) : Int) := fun _ => zw_id (by omega) (by omega)
    have z3 : ∀ _ : Unit, zw (18 + ((k : Nat) : Int)) = 18 + ((k : Nat) : Int) := fun _ => zw_id (by omega) (by omega)
    have z4 : ∀ _ : Unit, zw (((k : Nat) : Int) + 1) = ((k + 1 : Nat) : Int) := fun _ => by rw [zw_id (by omega) (by omega)]; omega
    rw [e13, z1 (), z2 (), z3 (), z4 ()]
    exact ⟨fun g => absurd g (by omega), fun _ => ⟨by omega, by omega, ih (k + 1) _ (by omega) (hc.step ht (by omega))⟩⟩
theorem l159a {t l : Nat} (ht : t < 6) (hl : l ≤ 169) {s1 : Pl} (h13 : s1 72 13 = ((t : Nat) : Int)) (h18 : s1 72 18 = ((l : Nat) : Int)) {P : Int → Pl → Prop} (h : ∀ s2, CP t l s1 s2 → Fr xs L T0 106 d 159 168 [some (rf 73), some (it 0)] [] s2 (qi P)) : ∀ (j k : Nat) (s2 : Pl), k + j = l → CP t k s1 s2 → Fr xs L T0 106 d 159 102 [some (rf 73), some (it ((k : Nat) : Int))] [] s2 (qi P) := by
  intro j
  induction j with
  | zero =>
    intro k s2 hk hc
    obtain rfl : k = l := hk
    refine f159_102 ?_
    have e18 : s2 72 18 = ((k : Nat) : Int) := by rw [hc 72 18, if_neg (by omega), h18]
    rw [e18]
    exact ⟨fun _ => h s2 hc, fun g => absurd (by omega) g⟩
  | succ j ih =>
    intro k s2 hk hc
    have e13 : s2 72 13 = ((t : Nat) : Int) := by rw [hc 72 13, if_neg (by omega), h13]
    have e18 : s2 72 18 = ((l : Nat) : Int) := by rw [hc 72 18, if_neg (by omega), h18]
    refine f159_102 ?_
    have z1 : ∀ _ : Unit, zw (170 * ((t : Nat) : Int)) = 170 * ((t : Nat) : Int) := fun _ => zw_id (by omega) (by omega)
    have z2 : ∀ _ : Unit, zw (170 * ((t : Nat) : Int) + ((k : Nat) : Int)) = 170 * ((t : Nat) : Int) + ((k : Nat) : Int) := fun _ => zw_id (by omega) (by omega)
    have z3 : ∀ _ : Unit, zw (1020 + ((k : Nat) : Int)) = 1020 + ((k : Nat) : Int) := fun _ => zw_id (by omega) (by omega)
    have z4 : ∀ _ : Unit, zw (((k : Nat) : Int) + 1) = ((k + 1 : Nat) : Int) := fun _ => by rw [zw_id (by omega) (by omega)]; omega
    have e13b : ∀ i v, zup s2 82 i v 72 13 = ((t : Nat) : Int) := fun i v => by rw [zg, if_neg (by omega), e13]
    have e81 : ∀ i v q, zup s2 82 i v 83 q = s2 83 q := fun i v q => by rw [zg, if_neg (by omega)]
    rw [e18, e13, z1 (), z2 (), z3 (), e13b, z1 (), z2 (), z4 (), e81]
    exact ⟨fun g => absurd g (by omega), fun _ => ⟨by omega, by omega, by omega, by omega, ih (k + 1) _ (by omega) (hc.step ht (by omega))⟩⟩
theorem m159 (hd : 56 ≤ d) {t : Nat} (ht : t < 6) (hb : tM f m s) (h13 : s 72 13 = ((t : Nat) : Int)) (am0 : Int) (C0 : Int → Int) {P : Int → Pl → Prop}
    (k1 : ∀ e0 e1 z s1, txG f m am0 C0 = .inl (e0, e1, z) → s1 72 12 = 0 → s1 72 13 = ((t + 1 : Nat) : Int) → (∀ k : Nat, k < z.l → stp (s1 82 (170 * ((t : Nat) : Int) + ((k : Nat) : Int))) (s1 83 (170 * ((t : Nat) : Int) + ((k : Nat) : Int))) (z.C ((k : Nat) : Int))) → s1 84 (3 * ((t : Nat) : Int)) = ((e0 : Nat) : Int) → s1 84 (3 * ((t : Nat) : Int) + 1) = ((e1 : Nat) : Int) → s1 84 (3 * ((t : Nat) : Int) + 2) = ((z.l : Nat) : Int) → (∀ c i, ¬ (c = 72 ∧ 12 ≤ i ∧ i ≤ 24 ∧ i ≠ 14) → ¬ ((c = 82 ∨ c = 83) ∧ 170 * ((t : Nat) : Int) ≤ i) → ¬ (c = 84 ∧ 3 * ((t : Nat) : Int) ≤ i) → s1 c i = s c i) → P ((t : Nat) : Int) s1)
    (k0 : ∀ p s1, txG f m am0 C0 = .inr p → s1 72 12 = 0 → (∀ c i, ¬ (c = 72 ∧ (i = 12 ∨ 18 ≤ i ∧ i ≤ 24)) → ¬ ((c = 82 ∨ c = 83) ∧ 1020 ≤ i) → ¬ (c = 84 ∧ 18 ≤ i) → s1 c i = s c i) → p ≤ 160 → P (-100 - ((p : Nat) : Int)) s1) : Ev xs L T0 106 d 159 [rf 73] s (qi P) := by
  have hm := hb.1.2
  refine e159 (by omega) (f159_0 ?_)
  rw [h13]
  refine ⟨fun _ => ?_, fun g => absurd (by omega) g⟩
  have hx0 := stepT_ok (f := f) (m := m) (x := (0, 0, 0, am0, 0, C0)) (Nat.zero_le _) (Nat.le_refl _)
  refine i146 (by omega) (f := f) (m := m) (x := (0, 0, 0, am0, 0, C0)) ((((hb.up (by decide)).up (by decide)).up (by decide)).up (by decide)) ?_ (Nat.zero_le _) (fun s1 a1 a2 a3 a4 => ?_)
  · rw [zg, if_neg (by omega), zg, if_neg (by omega), zg, if_neg (by omega), zg, if_pos ⟨rfl, rfl⟩]; rfl
  have r1 : rM s 0 (stepT f m (0, 0, 0, am0, 0, C0)) s1 := by
    refine ⟨⟨a1, a2, a3, ?_, ?_, ?_⟩, fun k hk => absurd hk (Nat.not_lt_zero _), fun c i hc => ?_⟩
    · rw [a4 72 18 (by omega), zg, if_pos ⟨rfl, rfl⟩]; rfl
    · rw [a4 72 19 (by omega), zg, if_neg (by omega), zg, if_neg (by omega), zg, if_pos ⟨rfl, rfl⟩]
    · rw [a4 72 20 (by omega), zg, if_neg (by omega), zg, if_pos ⟨rfl, rfl⟩]
    · rw [a4 c i (by unfold chM at hc; omega), zg, if_neg (by unfold chM at hc; omega), zg, if_neg (by unfold chM at hc; omega), zg, if_neg (by unfold chM at hc; omega), zg, if_neg (by unfold chM at hc; omega)]
  clear a1 a2 a3 a4
  unfold txG at k1 k0
  generalize stepT f m (0, 0, 0, am0, 0, C0) = x0 at *
  -- how a failure ends
  have bad61 : ∀ (p : Nat) (B v : Int) (b s2 : Pl), nM b B p s2 → p ≤ 160 → P (-100 - ((p : Nat) : Int)) (zup s2 72 12 0) → Fr xs L T0 106 (d - 1) 159 80 [some (rf 73), some (it v)] [] s2 (qi P) := by
    intro p B v b s2 hn hp hP
    refine f159_80 ?_
    have e : zup s2 72 12 0 72 19 = ((p : Nat) : Int) := by rw [zg, if_neg (by omega), hn.1]
    rw [e, zw_id (by omega) (by omega)]
    exact ⟨fun g => absurd g (by omega), fun _ => hP⟩
  have bad38 : ∀ (p : Nat) (B v : Int) (b s2 : Pl), nM b B p s2 → p ≤ 160 → P (-100 - ((p : Nat) : Int)) (zup s2 72 12 0) → Fr xs L T0 106 (d - 1) 159 38 [some (rf 73), some (it v)] [] s2 (qi P) := by
    intro p B v b s2 hn hp hP
    have fin : Fr xs L T0 106 (d - 1) 159 61 [some (rf 73), some (it v)] [] s2 (qi P) := by
      refine f159_61 ?_
      rw [hn.1]
      exact ⟨fun _ => bad61 p B v b s2 hn hp hP, fun g => absurd (by omega) g⟩
    refine f159_38 ?_
    rw [hn.1]
    exact ⟨fun _ => fin, fun _ => ⟨fun _ => fin, fun g => absurd (by omega) g⟩⟩
  have frm : ∀ (b s2 : Pl) (B : Int) (p : Nat), nM b B p s2 → (∀ c i, ¬ (c = 84 ∧ 18 ≤ i) → b c i = s c i) → ∀ c i, ¬ (c = 72 ∧ (i = 12 ∨ 18 ≤ i ∧ i ≤ 24)) → ¬ ((c = 82 ∨ c = 83) ∧ 1020 ≤ i) → ¬ (c = 84 ∧ 18 ≤ i) → zup s2 72 12 0 c i = s c i := by
    intro b s2 B p hn hbs c i h1 h2 h3
    rw [zg, if_neg (by omega), hn.2.2.2 c i (by unfold chM; omega), hbs c i h3]
  have z12 : ∀ s2 : Pl, zup s2 72 12 0 72 12 = 0 := fun s2 => by rw [zg, if_pos ⟨rfl, rfl⟩]
  have pk0 := pt_ok (f := f) (m := m) (q := 0) (by decide) hx0.1
  -- the parts
  refine f159_38 ?_
  rw [r1.1.2.2.2.2.1]
  refine ⟨fun g => absurd g (by decide), fun _ => ⟨fun g => absurd g (by decide), fun _ => ?_⟩⟩
  refine m158 (by omega) hb (by decide) hx0.1 r1 (fun x s2 ex r2 => ?_) (fun p s2 ep r2 => ?_)
  rotate_left
  · have pl := (pk0.2 p ep).2
    rw [ep] at k0
    exact bad38 p _ _ s s2 r2 (by omega) (k0 p _ rfl (z12 _) (frm s s2 _ p r2 (fun c i _ => rfl)) (by omega))
  have w1 := (pk0.1 x ex).1
  rw [ex] at k1 k0
  dsimp only at k1 k0
  have pk1 := pt_ok (f := f) (m := m) (q := 1) (by decide) w1
  have hb1 := hb.end (18 + 0) ((x.l : Nat) : Int)
  refine f159_38 ?_
  rw [r2.1.2.2.2.2.1, zw_id (by decide) (by decide)]
  refine ⟨fun g => absurd g (by decide), fun _ => ⟨fun g => absurd g (by decide), fun _ => ?_⟩⟩
  refine m158 (by omega) hb1 (by decide) w1 r2 (fun y s3 ey r3 => ?_) (fun p s3 ep r3 => ?_)
  rotate_left
  · have ep : ptG (stepT f m) 1 x = .inr p := ep
    have pl := (pk1.2 p ep).2
    rw [ep] at k0
    exact bad38 p _ _ _ s3 r3 (by omega) (k0 p _ rfl (z12 _) (frm _ s3 _ p r3 (fun c i h => by rw [zg, if_neg (by omega)])) (by omega))
  have ey : ptG (stepT f m) 1 x = .inl y := ey
  have w2 := (pk1.1 y ey).1
  rw [ey] at k1 k0
  dsimp only at k1 k0
  have pk2 := pt_ok (f := f) (m := m) (q := 2) (by decide) w2
  have hb2 := hb1.end (18 + (0 + 1)) ((y.l : Nat) : Int)
  refine f159_38 ?_
  rw [r3.1.2.2.2.2.1, zw_id (by decide) (by decide)]
  refine ⟨fun g => absurd g (by decide), fun _ => ⟨fun g => absurd g (by decide), fun _ => ?_⟩⟩
  refine m158 (by omega) hb2 (by decide) w2 r3 (fun z s4 ez r4 => ?_) (fun p s4 ep r4 => ?_)
  rotate_left
  · have ep : ptG (stepT f m) 2 y = .inr p := ep
    have pl := (pk2.2 p ep).2
    rw [ep] at k0
    exact bad38 p _ _ _ s4 r4 (by omega) (k0 p _ rfl (z12 _) (frm _ s4 _ p r4 (fun c i h => by rw [zg, if_neg (by omega), zg, if_neg (by omega)])) (by omega))
  have ez : ptG (stepT f m) 2 y = .inl z := ez
  have w3 := (pk2.1 z ez).1
  rw [ez] at k1 k0
  dsimp only at k1 k0
  have zl1 := w3.1
  have zl2 := w3.2.1
  have zl3 := w3.2.2.2.1
  refine f159_38 ?_
  rw [zw_id (by decide) (by decide)]
  refine ⟨fun _ => f159_61 ?_, fun g => absurd (by decide) g⟩
  rw [r4.1.2.2.2.2.1]
  refine ⟨fun g => absurd g (by decide), fun _ => ?_⟩
  obtain ⟨t1, t2, t3, t4, t5⟩ := r4.1.2.2.1
  by_cases q : z.tk = 301
  rotate_left
  · refine ⟨fun g => ?_, fun _ => m147 (by omega) r4 (fun s5 r5 => bad61 z.p _ _ _ s5 r5 (by omega) (k0 z.p _ (by rw [if_neg q]) (z12 _) (frm _ s5 _ z.p r5 (fun c i h => by rw [zg, if_neg (by omega), zg, if_neg (by omega), zg, if_neg (by omega)])) (by omega)))⟩
    exfalso
    have w5 := w3.2.2.2.2
    by_cases q9 : z.tk < 12
    · have := (t1 q9).1; omega
    · by_cases q3 : z.tk < 300
      · have := (t2 (by omega) q3).1; omega
      · rcases (show z.tk = 300 ∨ z.tk = 302 by omega) with q4 | q4
        · have := (t3 q4).1; omega
        · have := t5 q4; omega
  refine ⟨fun _ => ?_, fun g => absurd (t4 q) g⟩
  refine f159_80 ?_
  have e19 : zup s4 72 12 0 72 19 = -1 := by rw [zg, if_neg (by omega), r4.1.2.2.2.2.1]
  rw [e19]
  refine ⟨fun _ => ?_, fun g => absurd (by decide) g⟩
  have f4 : ∀ c i, ¬ chM c i → ¬ (c = 84 ∧ 18 ≤ i) → s4 c i = s c i := fun c i h1 h2 => by
    rw [r4.2.2 c i h1, zg, if_neg (by omega), zg, if_neg (by omega), zg, if_neg (by omega)]
  have e13 : zup s4 72 12 0 72 13 = ((t : Nat) : Int) := by rw [zg, if_neg (by omega), f4 72 13 (by unfold chM; omega) (by omega), h13]
  have e18 : zup s4 72 12 0 72 18 = ((z.l : Nat) : Int) := by rw [zg, if_neg (by omega), r4.1.2.2.2.1]
  have c82 : ∀ i : Int, ¬ chM 84 i := fun i => by unfold chM; omega
  refine l159a ht (by omega) e13 e18 (fun s5 hcp => ?_) z.l 0 _ (by omega) (fun c i => by rw [if_neg (by omega)])
  have e13b : s5 72 13 = ((t : Nat) : Int) := by rw [hcp 72 13, if_neg (by omega), e13]
  refine l159b ht e13b (fun s6 hce => ?_) 3 0 _ rfl (fun c i => by rw [if_neg (by omega)])
  have g82 : ∀ k : Int, 0 ≤ k → k < 3 → zup s6 72 13 ((t + 1 : Nat) : Int) 84 (3 * ((t : Nat) : Int) + k) = s4 84 (18 + k) := fun k h1 h2 => by
    rw [zg, if_neg (by omega), hce 84 _, if_pos (by omega), hcp 84 _, if_neg (by omega), zg, if_neg (by omega), show 3 * ((t : Nat) : Int) + k - 3 * ((t : Nat) : Int) = k from by omega]
  refine k1 x.l y.l z _ (by rw [if_pos q]) ?_ ?_ (fun k hk => ?_) ?_ ?_ ?_ (fun c i h1 h2 h3 => ?_)
  · rw [zg, if_neg (by omega), hce 72 12, if_neg (by omega), hcp 72 12, if_neg (by omega), zg, if_pos ⟨rfl, rfl⟩]
  · rw [zg, if_pos ⟨rfl, rfl⟩]
  · have g80 : ∀ c, c = 82 ∨ c = 83 → zup s6 72 13 ((t + 1 : Nat) : Int) c (170 * ((t : Nat) : Int) + ((k : Nat) : Int)) = s4 c (1020 + ((k : Nat) : Int)) := fun c hc => by
      rw [zg, if_neg (by omega), hce c _, if_neg (by omega), hcp c _, if_pos (by omega), zg, if_neg (by omega), show 170 * ((t : Nat) : Int) + ((k : Nat) : Int) - 170 * ((t : Nat) : Int) = ((k : Nat) : Int) from by omega]
    rw [g80 82 (Or.inl rfl), g80 83 (Or.inr rfl)]
    exact r4.2.1 k hk
  · have := g82 0 (by decide) (by decide)
    rw [show 3 * ((t : Nat) : Int) + 0 = 3 * ((t : Nat) : Int) from by omega] at this
    rw [this, r4.2.2 _ _ (c82 _), zg, if_neg (by omega), zg, if_neg (by omega), zg, if_pos ⟨rfl, rfl⟩]
  · rw [g82 1 (by decide) (by decide), r4.2.2 _ _ (c82 _), zg, if_neg (by omega), zg, if_pos ⟨rfl, rfl⟩]
  · rw [g82 2 (by decide) (by decide), r4.2.2 _ _ (c82 _), zg, if_pos ⟨rfl, rfl⟩]
  · rw [zg, if_neg (by omega), hce c i, if_neg (by omega), hcp c i, if_neg (by omega), zg, if_neg (by omega), f4 c i (by unfold chM; omega) (by omega)]
end TXM
