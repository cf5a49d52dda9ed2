/-! the class's reader: a whole TEXT -/
section PAR3
variable {xs : Nat → Int} {L : Nat} {T : List (Nat × Int × Int)} {n d : Nat} {s s0 : Pl} {f : Int → Int} {m t : Nat}
theorem bC.end {f : Int → Int} {m t : Nat} {s0 : Pl} (h : bC f m t s0) (k v : Int) : bC f m t (zup s0 (23 + 4 * t) k v) := by
  have ht := h.2.2
  exact ⟨h.1.cong (by rw [zg, if_neg (by omega)]) (by rw [zune _ _ _ (by omega)]), by rw [zg, if_neg (by omega)]; exact h.2.1, ht⟩
theorem rC.end {f : Int → Int} {m t : Nat} {s0 : Pl} {o : Int} {x : TxS} {s : Pl} (h : rC f m t s0 o x s) (ht : t < 6) (k v : Int) : rC f m t (zup s0 (23 + 4 * t) k v) o x (zup s (23 + 4 * t) k v) := by
  obtain ⟨⟨h1, ⟨i, F, q1, q2, q3, q4, q5⟩, h3, h4, h5⟩, h6, h7, h8⟩ := h
  refine ⟨⟨by rw [zg, if_neg (by omega), h1], ⟨i, F, by rw [zg, if_neg (by omega), q1], q2, q3.cong (by rw [zg, if_neg (by omega)]) (by rw [zune _ _ _ (by omega)]) (by rw [zune _ _ _ (by omega)]), q4, q5⟩, by rw [zg, if_neg (by omega), h3], trivial, by rw [zg, if_neg (by omega), h5]⟩, by rw [zg, if_neg (by omega), h6], by rw [zune _ _ _ (by omega), h7], fun c i hc => ?_⟩
  rw [zg, zg, h8 c i hc]
theorem c19 (hK : KR T n) (hd : 53 ≤ d) (hb : bC f m t s0) {k : Int} (hk : 0 ≤ k ∧ k < 3) {x : TxS} (hw : wfS m x) (h : rC f m t s0 0 x s) {P : Int → Pl → Prop} (k1 : ∀ z s1, ptG (stepT f m) k x = .inl z → rC f m t (zup s0 (23 + 4 * t) k ((z.l : Nat) : Int)) 0 z s1 → P 1 s1) (k0 : ∀ p s1, ptG (stepT f m) k x = .inr p → nC t s0 p s1 → P 0 s1) : Ev xs L T n d 19 [rf 54, it k] s (qi P) := by
  have hm := hb.1.2.1
  have e5 := h.1.2.2.1
  have w1 := hw.1
  have w2 := hw.2.1
  have w4 := hw.2.2.2.1
  refine e19 (by omega) (f19_0 hK ?_)
  rw [e5, zw_id (by omega) (by omega), hw.cq (c := 6 + k) (by omega)]
  refine ⟨fun q => ?_, fun q => k0 x.p s (by unfold ptG; rw [if_neg q]) h.n⟩
  have w3 := hw.2.2.1 (by omega)
  have st := stepT_ok (f := f) (x := x) w2 (by omega)
  have eq : ptG (stepT f m) k x = bnd (eG (stepT f m) (lvG (stepT f m) 5).2 (stepT f m x)) fun y => if y.tk = 59 then .inl (stepT f m y) else .inr y.p := by unfold ptG; rw [if_pos q]
  rw [eq] at k1 k0
  refine c28 hK (by omega) hb h w2 (fun s1 r1 => c20e hK hb (by omega) _ _ _ st.1 r1 (fun y s2 ey r2 => ?_) (fun p s2 ep r2 => ?_))
  · have g := Gz_e (f := f) (m := m) 5 _ st.1
    rw [ey] at g k1 k0
    refine ⟨fun q => absurd q (by decide), fun _ => ?_⟩
    rw [r2.1.2.2.1, g.1.cq (c := 59) (by decide)]
    refine ⟨fun q2 => ⟨t, hb.2.2, hb.l r2.2.2.2, ?_⟩, fun q2 => k0 y.p s2 (by show (if y.tk = 59 then _ else _) = _; rw [if_neg q2]) r2.n⟩
    refine e12 (by omega) (f12_0 hK hb.2.2 ⟨fun q3 => absurd q3 (by omega), fun _ => ⟨fun q3 => absurd q3 (by omega), fun _ => ⟨hk, ?_⟩⟩⟩)
    rw [r2.2.1]
    refine c28 hK (by omega) (hb.end k ((y.l : Nat) : Int)) (r2.end hb.2.2 k ((y.l : Nat) : Int)) g.1.2.1 (fun s3 r3 => k1 _ s3 ?_ r3)
    show (if y.tk = 59 then _ else _) = _
    rw [if_pos q2]
  · rw [ep] at k0
    exact ⟨fun _ => k0 p s2 rfl r2, fun q => absurd rfl q⟩
/-- what a reading may change -/
def chF (t : Nat) (c : Nat) (i : Int) : Prop := c = 53 ∧ 4 ≤ i ∧ i ≤ 9 ∨ c = 55 ∨ c = 56 ∨ c = 21 + 4 * t ∧ i = 3 ∨ c = 22 + 4 * t ∨ c = 23 + 4 * t
theorem c18 (hK : KR T n) (hd : 55 ≤ d) (ht : t < 6) (hS : tS f m s) {P : Int → Pl → Prop} (k1 : ∀ e0 e1 z s1, txG f m 0 (s (22 + 4 * t)) = .inl (e0, e1, z) → s1 (22 + 4 * t) = z.C → s1 (23 + 4 * t) 0 = ((e0 : Nat) : Int) → s1 (23 + 4 * t) 1 = ((e1 : Nat) : Int) → s1 (23 + 4 * t) 2 = ((z.l : Nat) : Int) → (∀ c i, ¬ chF t c i → s1 c i = s c i) → P (-1) s1)
    (k0 : ∀ p s1, txG f m 0 (s (22 + 4 * t)) = .inr p → (∀ c i, ¬ chF t c i → s1 c i = s c i) → P ((p : Nat) : Int) s1) : Ev xs L T n d 18 [rf 54, rf (21 + 4 * t + 1)] s (qi P) := by
  have hm := hS.2.1
  refine e18 (by omega) (f18_0 hK ht ⟨t, ht, by rw [zg, if_pos ⟨rfl, rfl⟩], ?_⟩)
  refine e10 (by omega) (f10_0 hK ht ?_)
  generalize eb : zup (zup (zup s 53 8 ((21 + 4 * t + 1 : Nat) : Int)) (21 + 4 * t) 3 0) 53 9 0 = b1
  have fb1 : ∀ c i, ¬ (c = 53 ∧ i = 8 ∨ c = 53 ∧ i = 9 ∨ c = 21 + 4 * t ∧ i = 3) → b1 c i = s c i := fun c i hc => by rw [← eb, zg, if_neg (by omega), zg, if_neg (by omega), zg, if_neg (by omega)]
  have b18 : b1 53 8 = ((21 + 4 * t + 1 : Nat) : Int) := by rw [← eb, zg, if_neg (by omega), zg, if_neg (by omega), zg, if_pos ⟨rfl, rfl⟩]
  have b19 : b1 53 9 = 0 := by rw [← eb, zg, if_pos ⟨rfl, rfl⟩]
  have b13 : b1 (21 + 4 * t) 3 = 0 := by rw [← eb, zg, if_neg (by omega), zg, if_pos ⟨rfl, rfl⟩]
  have hS1 : tS f m b1 := hS.cong (fb1 53 1 (by omega)) (funext fun i => fb1 54 i (by omega))
  refine i29 hK (by omega) hS1 (fun b0 F hq fb0 => ?_)
  have fb : ∀ c i, ¬ chF t c i → b0 c i = s c i := fun c i hc => by
    unfold chF at hc
    rw [fb0 c i (by omega), fb1 c i (by omega)]
  have hb0 : bC f m t b0 := ⟨hS1.cong (fb0 53 1 (by omega)) (funext fun i => fb0 54 i (by omega)), by rw [fb0 53 8 (by omega)]; exact b18, ht⟩
  have hx0 := stepT_ok (f := f) (m := m) (x := (0, 0, 0, 0, 0, s (22 + 4 * t))) (Nat.zero_le _) (Nat.le_refl _)
  have hq2 : tks f m (zup b0 53 5 0) F := hq.cong (by rw [zg, if_neg (by omega)]) (by rw [zune _ _ _ (by omega)]) (by rw [zune _ _ _ (by omega)])
  refine i28 hK (by omega) (k := 0) hq2 (by rw [zg, if_pos ⟨rfl, rfl⟩]; rfl) hq.1.2.1 (fun s1 a1 a2 a3 a5 => ?_)
  have r1 : rC f m t b0 0 (stepT f m (0, 0, 0, 0, 0, s (22 + 4 * t))) s1 := by
    refine ⟨⟨a1, ⟨1, F, a2, hq.1.2.1, hq, rfl, fun e => hq.last e 0⟩, a3, trivial, ?_⟩, ?_, ?_, fun c i hc => ?_⟩
    · rw [a5 53 9 (by omega), zg, if_neg (by omega), fb0 53 9 (by omega), b19]
    · rw [a5 _ 3 (by omega), zg, if_neg (by omega), fb0 _ 3 (by omega), b13]; rfl
    · show s1 (22 + 4 * t) = s (22 + 4 * t)
      funext i
      rw [a5 _ i (by omega), zg, if_neg (by omega), fb0 _ i (by omega), fb1 _ i (by omega)]
    · rw [a5 c i (by unfold chC at hc; omega), zg, if_neg (by unfold chC at hc; omega)]
  clear a1 a2 a3 a5
  have cF : ∀ c i, ¬ chF t c i → ¬ chC t c i ∧ c ≠ 23 + 4 * t := fun c i hc => by
    unfold chF at hc
    unfold chC
    omega
  unfold txG at k1 k0
  generalize stepT f m (0, 0, 0, 0, 0, s (22 + 4 * t)) = x0 at *
  -- first part
  refine f18_32 hK ht ⟨fun q => absurd q (by decide), fun _ => ?_⟩
  refine c19 hK (by omega) hb0 (by decide) hx0.1 r1 (fun x s2 ex r2 => ⟨fun _ => ?_, fun q => absurd (show ¬ (1 : Int) = 0 by decide) q⟩) (fun p s2 ep r2 => ⟨fun q => absurd rfl q, fun _ => ?_⟩)
  rotate_left
  · rw [ep] at k0
    rw [r2.1]
    exact k0 p s2 rfl (fun c i h1 => by rw [r2.2 c i (cF c i h1).1, fb c i h1])
  rw [ex] at k1 k0
  dsimp only at k1 k0
  have w1 := ((pt_ok (f := f) (q := 0) (by decide) hx0.1).1 x ex).1
  have hb1 := hb0.end 0 ((x.l : Nat) : Int)
  rw [zw_id (by decide) (by decide)]
  refine f18_32 hK ht ⟨fun q => absurd q (by decide), fun _ => ?_⟩
  refine c19 hK (by omega) hb1 (by decide) w1 r2 (fun y s3 ey r3 => ⟨fun _ => ?_, fun q => absurd (show ¬ (1 : Int) = 0 by decide) q⟩) (fun p s3 ep r3 => ⟨fun q => absurd rfl q, fun _ => ?_⟩)
  rotate_left
  · rw [show (0 : Int) + 1 = 1 from rfl] at ep
    rw [ep] at k0
    rw [r3.1]
    exact k0 p s3 rfl (fun c i h1 => by rw [r3.2 c i (cF c i h1).1, zg, if_neg (fun q => (cF c i h1).2 q.1), fb c i h1])
  rw [show (0 : Int) + 1 = 1 from rfl] at ey
  rw [ey] at k1 k0
  dsimp only at k1 k0
  have w2 := ((pt_ok (f := f) (q := 1) (by decide) w1).1 y ey).1
  have hb2 := hb1.end 1 ((y.l : Nat) : Int)
  rw [zw_id (by decide) (by decide)]
  refine f18_32 hK ht ⟨fun q => absurd q (by decide), fun _ => ?_⟩
  refine c19 hK (by omega) hb2 (by decide) w2 r3 (fun z s4 ez r4 => ⟨fun _ => ?_, fun q => absurd (show ¬ (1 : Int) = 0 by decide) q⟩) (fun p s4 ep r4 => ⟨fun q => absurd rfl q, fun _ => ?_⟩)
  rotate_left
  · rw [show (0 : Int) + 1 + 1 = 2 from rfl] at ep
    rw [ep] at k0
    rw [r4.1]
    exact k0 p s4 rfl (fun c i h1 => by rw [r4.2 c i (cF c i h1).1, zg, if_neg (fun q => (cF c i h1).2 q.1), zg, if_neg (fun q => (cF c i h1).2 q.1), fb c i h1])
  rw [show (0 : Int) + 1 + 1 = 2 from rfl] at ez
  rw [ez] at k1 k0
  dsimp only at k1 k0
  rw [zw_id (by decide) (by decide)]
  have w3 := ((pt_ok (f := f) (q := 2) (by decide) w2).1 z ez).1
  have fr : ∀ c i, ¬ chF t c i → s4 c i = s c i := fun c i h1 => by
    rw [r4.2.2.2 c i (cF c i h1).1, zg, if_neg (fun q => (cF c i h1).2 q.1), zg, if_neg (fun q => (cF c i h1).2 q.1), zg, if_neg (fun q => (cF c i h1).2 q.1), fb c i h1]
  refine f18_32 hK ht ⟨fun _ => ?_, fun q => absurd (by decide) q⟩
  rw [r4.1.2.2.1, r4.1.1, w3.ce]
  have cc : ∀ i : Int, ¬ chC t (23 + 4 * t) i := fun i => by unfold chC; omega
  refine ⟨fun q => k0 z.p s4 (by rw [if_neg q]) fr, fun q => k1 x.l y.l z s4 (by rw [if_pos (Decidable.not_not.mp q)]) r4.2.2.1 ?_ ?_ ?_ fr⟩
  · rw [r4.2.2.2 _ _ (cc _), zg, if_neg (by omega), zg, if_neg (by omega), zg, if_pos ⟨rfl, rfl⟩]
  · rw [r4.2.2.2 _ _ (cc _), zg, if_neg (by omega), zg, if_pos ⟨rfl, rfl⟩]
  · rw [r4.2.2.2 _ _ (cc _), zg, if_pos ⟨rfl, rfl⟩]
end PAR3
