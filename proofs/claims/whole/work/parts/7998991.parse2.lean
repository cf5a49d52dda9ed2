/-! the class's reader: sums, ones, nots, a whole TEXT -/
section PAR2
variable {xs : Nat → Int} {L : Nat} {T : List (Nat × Int × Int)} {n d : Nat} {s s0 : Pl} {f : Int → Int} {m t : Nat} {o : Int}
theorem lp23 {F : TxS → TxR} (hK : KR T n) (hd : 8 ≤ d) (hb : bC f m t s0) (hF : CZ xs L T n d s0 f m t o 24 F) (hG : Gz m F) : ∀ (j i : Nat) (x : TxS) (s : Pl) (P : Int → Pl → Prop) (w3 : Option AV), i + j = 161 → wfS m x → i ≤ x.p → rC f m t s0 o x s → (∀ z s1, lpT opS (stepT f m) F j x = .inl z → rC f m t s0 o z s1 → P 1 s1) → (∀ p s1, lpT opS (stepT f m) F j x = .inr p → nC t s0 p s1 → P 0 s1) → Fr xs L T n d 23 7 [some (rf 54), some (it 1), some (it ((i : Nat) : Int)), w3] [] s (qi P) := by
  have hm := hb.1.2.1
  intro j
  induction j with
  | zero =>
    intro i x s P w3 hi hw hp
    have := hw.1
    have := hw.2.1
    omega
  | succ j ih =>
    intro i x s P w3 hi hw hp h k1 k0
    have e5 := h.1.2.2.1
    have w1 := hw.1
    have w2 := hw.2.1
    have w4 := hw.2.2.2.1
    refine f23_7 hK ?_
    rw [e5, hw.cq (c := 43) (by decide), hw.cq (c := 45) (by decide)]
    have hstop : ¬ (x.tk = 43 ∨ x.tk = 45) → P 1 s := fun q => k1 x s (by unfold lpT opS; rw [if_neg q]) h
    have go : (x.tk = 43 ∨ x.tk = 45) → Fr xs L T n d 23 36 [some (rf 54), some (it 1), some (it ((i : Nat) : Int)), w3] [] s (qi P) := by
      intro q
      have w3 := hw.2.2.1 (by omega)
      have st := stepT_ok (f := f) (x := x) w2 (by omega)
      have eq : lpT opS (stepT f m) F (j + 1) x = bnd (F (stepT f m x)) fun y => lpT opS (stepT f m) F j (addT (-x.tk) y) := by
        show (match opS x.tk with | none => _ | some c => _) = _
        unfold opS
        rw [if_pos q]
      rw [eq] at k1 k0
      refine f23_36 hK ?_
      rw [e5, cod_s (by omega), zw_id (x := -x.tk) (by omega) (by omega)]
      refine c28 hK hd hb h w2 (fun s1 r1 => hF _ _ _ st.1 r1 (fun z s2 ez r2 => ?_) (fun p s2 ep r2 => ?_))
      · have g := hG _ st.1
        rw [ez] at g k1 k0
        have g1 := g.2.1
        have g2 := g.2.2
        have s2p := st.2.1
        have s2l := st.2.2.1
        have zw1 := g.1.1
        have zw2 := g.1.2.1
        refine ⟨t, hb.2.2, hb.l r2.2.2.2, c11 hK (by omega) hb.2.2 r2 (by omega) (fun s3 r3 => ?_)⟩
        rw [zw_id (by omega) (by omega)]
        exact ih (i + 1) (addT (-x.tk) z) s3 P _ (by omega) (wf_add g.1 (by omega)) (show i + 1 ≤ z.p by omega) r3 k1 k0
      · rw [ep] at k0
        refine ⟨t, hb.2.2, hb.l r2.2, c11n hK (by omega) hb.2.2 r2 (fun s3 r3 => f23_7 hK ?_)⟩
        exact ⟨fun _ => ⟨Or.inl rfl, k0 p s3 rfl r3⟩, fun _ => ⟨fun _ => ⟨Or.inl rfl, k0 p s3 rfl r3⟩, fun g => absurd rfl g⟩⟩
    by_cases q : x.tk = 43 ∨ x.tk = 45
    · have w3n := hw.2.2.1 (by omega)
      refine ⟨fun g => absurd g (by omega), fun _ => ⟨fun g => absurd g (by decide), fun _ => ⟨fun _ => go q, fun g => ⟨fun g2 => absurd g2 (by omega), fun _ => go q⟩⟩⟩⟩
    · exact ⟨fun _ => ⟨Or.inr rfl, hstop q⟩, fun _ => ⟨fun g => absurd g (by decide), fun _ => ⟨fun g => absurd g (by omega), fun _ => ⟨fun _ => ⟨Or.inr rfl, hstop q⟩, fun g => absurd g (by omega)⟩⟩⟩⟩
theorem c23 (hK : KR T n) (hd : 9 ≤ d) (hb : bC f m t s0) {F : TxS → TxR} (hF : CZ xs L T n (d - 1) s0 f m t o 24 F) (hG : Gz m F) : CZ xs L T n d s0 f m t o 23 (chn opS (stepT f m) F) := fun x s P hw h k1 k0 => by
  refine e23 (by omega) (f23_0 hK ?_)
  unfold chn at k1 k0
  refine hF x s _ hw h (fun z s1 ez r1 => ?_) (fun p s1 ep r1 => ?_)
  · rw [ez] at k1 k0
    have g := hG x hw
    rw [ez] at g
    exact lp23 hK (by omega) hb hF hG 161 0 z s1 P _ rfl g.1 (Nat.zero_le _) r1 k1 k0
  · rw [ep] at k0
    exact f23_7 hK ⟨fun g => absurd g (by decide), fun _ => ⟨fun _ => ⟨Or.inl rfl, k0 p s1 rfl r1⟩, fun g => absurd rfl g⟩⟩
/-- what stands behind an opening -/
def CO (xs : Nat → Int) (L : Nat) (T : List (Nat × Int × Int)) (n d : Nat) (s0 : Pl) (f : Int → Int) (m t : Nat) (o : Int) (y : Nat) (F : TxS → TxR) : Prop := (o < 5 ∧ ∃ N, Gz m N ∧ CZ xs L T n d s0 f m t (o + 1) y N ∧ F = fun x => N (stepT f m x)) ∨ (¬ o < 5 ∧ F = stopG)
theorem c25 (hK : KR T n) (hd : 11 ≤ d) (hb : bC f m t s0) (ho : 0 ≤ o ∧ o < 10) {o1 oE : TxS → TxR} (h1 : CO xs L T n (d - 1) s0 f m t o 25 o1) (hE : CO xs L T n (d - 1) s0 f m t o 20 oE) : CZ xs L T n d s0 f m t o 25 (oneG (stepT f m) o1 oE) := by
  intro x s P hw h k1 k0
  have hm := hb.1.2.1
  have e5 := h.1.2.2.1
  have w1 := hw.1
  have w2 := hw.2.1
  have w4 := hw.2.2.2.1
  have zo : zw (o + 1 - 1) = o := by rw [zw_id (by omega) (by omega)]; omega
  refine e25 (by omega) (f25_0 hK ?_)
  rw [e5, hw.cq (c := 45) (by decide), hw.cq (c := 40) (by decide), hw.cn.1, hw.cn.2.1]
  have leaf : ¬ x.tk = 45 → ¬ x.tk = 40 → (x.tk = 300 ∨ x.tk < 6) → Fr xs L T n (d - 1) 25 117 [some (rf 54)] [] s (qi P) := by
    intro q1 q2 q3
    have w3 := hw.2.2.1 (by omega)
    have key : ∀ c : Int, oneG (stepT f m) o1 oE x = .inl (stepT f m (addT c x)) → Fr xs L T n (d - 1) 25 148 [some (rf 54)] [it c, rf (21 + 4 * t + 1)] s (qi P) := by
      intro c ec
      refine f25_148 hK hb.2.2 (c11 hK (by omega) hb.2.2 h (by omega) (fun s1 r1 => c28 hK (by omega) hb r1 w2 (fun s2 r2 => k1 _ s2 ec r2)))
    refine f25_117 hK ⟨t, hb.2.2, hb.l h.2.2.2, ?_⟩
    rw [e5, hw.cn.2.2]
    refine ⟨fun g => ?_, fun g => ?_⟩
    · have := hw.2.2.2.2.1
      rw [cod_s (by omega), zw_id (by omega) (by omega)]
      exact key _ (by unfold oneG; rw [if_neg q1, if_neg q2, if_neg g, if_pos (by omega)])
    · have g : x.tk = 300 := Decidable.not_not.mp g
      have ha := hw.2.2.2.2.2.2 g
      have ec : cod x.tk x.am - 1000 = x.am := by rw [g, cod_n]; omega
      rw [ec, zw_id (by omega) (by omega)]
      exact key _ (by unfold oneG; rw [if_neg q1, if_neg q2, if_pos g])
  refine ⟨fun q1 => ⟨fun q2 => ⟨fun q3 => leaf q1 q2 (Or.inr q3), fun q3 => ⟨fun q4 => leaf q1 q2 (Or.inl q4), fun q4 => k0 x.p s (by unfold oneG; rw [if_neg q1, if_neg q2, if_neg q4, if_neg q3]) h.n⟩⟩, fun q2 => ?_⟩, fun q1 => ?_⟩
  · have q2 : x.tk = 40 := Decidable.not_not.mp q2
    have w3 := hw.2.2.1 (by omega)
    have st := stepT_ok (f := f) (x := x) w2 (by omega)
    have eq : oneG (stepT f m) o1 oE x = bnd (oE x) fun y => if y.tk = 41 then .inl (stepT f m y) else .inr y.p := by unfold oneG; rw [if_neg q1, if_pos q2]
    rw [eq] at k1 k0
    rcases hE with ⟨h5, N, gN, cN, rfl⟩ | ⟨h5, rfl⟩
    · refine c26 hK (by omega) hb ho h w2 (fun _ s1 r1 => ⟨fun g => absurd g (by decide), fun _ => ?_⟩) (fun g => absurd h5 g)
      refine cN _ _ _ st.1 r1 (fun z s2 ez r2 => ?_) (fun p s2 ep r2 => ?_)
      · have g := gN _ st.1
        dsimp only at k1 k0
        rw [ez] at g k1 k0
        refine ⟨fun g => absurd g (by decide), fun _ => ?_⟩
        rw [r2.1.2.2.1, r2.1.2.2.2.2, zo, g.1.cq (c := 41) (by decide)]
        refine ⟨fun g2 => c28 hK (by omega) hb (r2.opn hb.2.2 o) g.1.2.1 (fun s3 r3 => k1 _ s3 (by show (if z.tk = 41 then _ else _) = _; rw [if_pos g2]) r3), fun g2 => k0 z.p s2 (by show (if z.tk = 41 then _ else _) = _; rw [if_neg g2]) r2.n⟩
      · dsimp only at k0
        rw [ep] at k0
        exact ⟨fun _ => k0 p s2 rfl r2, fun g => absurd rfl g⟩
    · refine c26 hK (by omega) hb ho h w2 (fun g => absurd g h5) (fun _ => ⟨fun _ => k0 x.p s rfl h.n, fun g => absurd rfl g⟩)
  · have q1 : x.tk = 45 := Decidable.not_not.mp q1
    have w3 := hw.2.2.1 (by omega)
    have st := stepT_ok (f := f) (x := x) w2 (by omega)
    have eq : oneG (stepT f m) o1 oE x = bnd (o1 x) fun y => .inl (addT (-13) y) := by unfold oneG; rw [if_pos q1]
    rw [eq] at k1 k0
    rcases h1 with ⟨h5, N, gN, cN, rfl⟩ | ⟨h5, rfl⟩
    · refine c26 hK (by omega) hb ho h w2 (fun _ s1 r1 => ⟨fun g => absurd g (by decide), fun _ => ?_⟩) (fun g => absurd h5 g)
      refine cN _ _ _ st.1 r1 (fun z s2 ez r2 => ?_) (fun p s2 ep r2 => ?_)
      · have g := gN _ st.1
        dsimp only at k1 k0
        rw [ez] at g k1 k0
        refine ⟨fun _ => ?_, fun g => absurd (show ¬ (1 : Int) = 0 by decide) g⟩
        rw [r2.1.2.2.2.2, zo]
        have r3 := r2.opn hb.2.2 o
        refine ⟨t, hb.2.2, hb.l r3.2.2.2, c11 hK (by omega) hb.2.2 r3 ?_ (fun s4 r4 => k1 _ s4 rfl r4)⟩
        have := g.2.2
        have := g.1.1
        have := g.1.2.1
        have := st.2.1
        have := st.2.2.1
        omega
      · dsimp only at k0
        rw [ep] at k0
        exact ⟨fun g => absurd rfl g, fun _ => k0 p s2 rfl r2⟩
    · refine c26 hK (by omega) hb ho h w2 (fun g => absurd g h5) (fun _ => ⟨fun _ => k0 x.p s rfl h.n, fun g => absurd rfl g⟩)
theorem c22 (hK : KR T n) (hd : 11 ≤ d) (hb : bC f m t s0) (ho : 0 ≤ o ∧ o < 10) {oN sum : TxS → TxR} (hN : CO xs L T n (d - 1) s0 f m t o 22 oN) (hS : CZ xs L T n (d - 1) s0 f m t o 23 sum) (hG : Gz m sum) : CZ xs L T n d s0 f m t o 22 (notG (stepT f m) oN sum) := by
  intro x s P hw h k1 k0
  have hm := hb.1.2.1
  have e5 := h.1.2.2.1
  have w1 := hw.1
  have w2 := hw.2.1
  have w4 := hw.2.2.2.1
  have zo : zw (o + 1 - 1) = o := by rw [zw_id (by omega) (by omega)]; omega
  refine e22 (by omega) (f22_0 hK ?_)
  rw [e5, hw.cq (c := 11) (by decide)]
  refine ⟨fun q1 => ?_, fun q1 => ?_⟩
  · have eq : notG (stepT f m) oN sum x = bnd (sum x) fun y => if y.tk = 60 ∨ y.tk = 61 then bnd (sum (stepT f m y)) fun z => .inl (addT (-y.tk) z) else .inl y := by unfold notG; rw [if_neg q1]
    rw [eq] at k1 k0
    refine hS _ _ _ hw h (fun y s1 ey r1 => ?_) (fun p s1 ep r1 => ?_)
    · have g := hG _ hw
      rw [ey] at g k1 k0
      refine ⟨fun _ => ?_, fun g => absurd (show ¬ (1 : Int) = 0 by decide) g⟩
      rw [r1.1.2.2.1, g.1.cq (c := 60) (by decide), g.1.cq (c := 61) (by decide)]
      have y1 := g.1.1
      have y2 := g.1.2.1
      have y4 := g.1.2.2.2.1
      have go : (y.tk = 60 ∨ y.tk = 61) → Fr xs L T n (d - 1) 22 74 [some (rf 54), some (it (cod y.tk y.am))] [] s1 (qi P) := by
        intro q
        have y3 := g.1.2.2.1 (by omega)
        have st := stepT_ok (f := f) (x := y) y2 (by omega)
        have eq2 : (bnd (.inl y) fun y => if y.tk = 60 ∨ y.tk = 61 then bnd (sum (stepT f m y)) fun z => .inl (addT (-y.tk) z) else .inl y : TxR) = bnd (sum (stepT f m y)) fun z => .inl (addT (-y.tk) z) := by
          show (if y.tk = 60 ∨ y.tk = 61 then _ else _) = _
          rw [if_pos q]
        rw [eq2] at k1 k0
        refine f22_74 hK ?_
        rw [cod_s (by omega), zw_id (x := -y.tk) (by omega) (by omega)]
        refine c28 hK (by omega) hb r1 y2 (fun s2 r2 => hS _ _ _ st.1 r2 (fun z s3 ez r3 => ?_) (fun p s3 ep r3 => ?_))
        · have g3 := hG _ st.1
          rw [ez] at g3 k1 k0
          refine ⟨fun _ => ⟨t, hb.2.2, hb.l r3.2.2.2, c11 hK (by omega) hb.2.2 r3 ?_ (fun s4 r4 => k1 _ s4 rfl r4)⟩, fun g => absurd (show ¬ (1 : Int) = 0 by decide) g⟩
          have := g3.2.2
          have := g3.1.1
          have := g3.1.2.1
          have := st.2.1
          have := st.2.2.1
          omega
        · rw [ep] at k0
          exact ⟨fun g => absurd rfl g, fun _ => k0 p s3 rfl r3⟩
      refine ⟨fun q => go (Or.inl q), fun q => ⟨fun q2 => go (Or.inr q2), fun q2 => k1 y s1 ?_ r1⟩⟩
      show (if y.tk = 60 ∨ y.tk = 61 then _ else _) = _
      rw [if_neg (by omega)]
    · rw [ep] at k0
      exact ⟨fun g => absurd rfl g, fun _ => k0 p s1 rfl r1⟩
  · have q1 : x.tk = 11 := Decidable.not_not.mp q1
    have w3 := hw.2.2.1 (by omega)
    have st := stepT_ok (f := f) (x := x) w2 (by omega)
    have eq : notG (stepT f m) oN sum x = bnd (oN x) fun y => .inl (addT (-12) y) := by unfold notG; rw [if_pos q1]
    rw [eq] at k1 k0
    rcases hN with ⟨h5, N, gN, cN, rfl⟩ | ⟨h5, rfl⟩
    · refine c26 hK (by omega) hb ho h w2 (fun _ s1 r1 => ⟨fun g => absurd g (by decide), fun _ => ?_⟩) (fun g => absurd h5 g)
      refine cN _ _ _ st.1 r1 (fun z s2 ez r2 => ?_) (fun p s2 ep r2 => ?_)
      · have g := gN _ st.1
        dsimp only at k1 k0
        rw [ez] at g k1 k0
        refine ⟨fun _ => ?_, fun g => absurd (show ¬ (1 : Int) = 0 by decide) g⟩
        rw [r2.1.2.2.2.2, zo]
        have r3 := r2.opn hb.2.2 o
        refine ⟨t, hb.2.2, hb.l r3.2.2.2, c11 hK (by omega) hb.2.2 r3 ?_ (fun s4 r4 => k1 _ s4 rfl r4)⟩
        have := g.2.2
        have := g.1.1
        have := g.1.2.1
        have := st.2.1
        have := st.2.2.1
        omega
      · dsimp only at k0
        rw [ep] at k0
        exact ⟨fun g => absurd rfl g, fun _ => k0 p s2 rfl r2⟩
    · refine c26 hK (by omega) hb ho h w2 (fun g => absurd g h5) (fun _ => ⟨fun _ => k0 x.p s rfl h.n, fun g => absurd rfl g⟩)
/-- every level: r brackets to go -/
theorem clv (hK : KR T n) (hb : bC f m t s0) : ∀ (r d : Nat), r ≤ 5 → 20 + 6 * r ≤ d → CZ xs L T n d s0 f m t (5 - (r : Int)) 25 (lvG (stepT f m) r).1 ∧ CZ xs L T n d s0 f m t (5 - (r : Int)) 22 (lvG (stepT f m) r).2
  | 0, d, _, hd => by
    have c1 : ∀ d, 11 ≤ d → CZ xs L T n d s0 f m t (5 - ((0 : Nat) : Int)) 25 (oneG (stepT f m) stopG stopG) := fun d hd => c25 hK hd hb (by decide) (Or.inr ⟨by decide, rfl⟩) (Or.inr ⟨by decide, rfl⟩)
    have g1 := (Gz_lv (f := f) (m := m) 0).1
    exact ⟨c1 d (by omega), c22 hK (by omega) hb (by decide) (Or.inr ⟨by decide, rfl⟩) (c23 hK (by omega) hb (c24 hK (by omega) hb (c1 _ (by omega)) g1) (Gz_chn (by decide) g1)) (Gz_chn (by decide) (Gz_chn (by decide) g1))⟩
  | r + 1, d, hr, hd => by
    have g := Gz_lv (f := f) (m := m) r
    have g1 := (Gz_lv (f := f) (m := m) (r + 1)).1
    have eo : (5 - ((r + 1 : Nat) : Int)) + 1 = 5 - (r : Int) := by omega
    have hE : ∀ d, 22 + 6 * r ≤ d → CZ xs L T n d s0 f m t (5 - (r : Int)) 20 (eG (stepT f m) (lvG (stepT f m) r).2) := fun d hd => c20 hK (by omega) hb (c21 hK (by omega) hb (clv hK hb r _ (by omega) (by omega)).2 g.2) (Gz_chn (by decide) g.2)
    have c1 : ∀ d, 23 + 6 * r ≤ d → CZ xs L T n d s0 f m t (5 - ((r + 1 : Nat) : Int)) 25 (lvG (stepT f m) (r + 1)).1 := fun d hd => c25 hK (by omega) hb (by omega) (Or.inl ⟨by omega, _, g.1, by rw [eo]; exact (clv hK hb r _ (by omega) (by omega)).1, rfl⟩) (Or.inl ⟨by omega, _, Gz_e r, by rw [eo]; exact hE _ (by omega), rfl⟩)
    refine ⟨c1 d (by omega), c22 hK (by omega) hb (by omega) (Or.inl ⟨by omega, _, g.2, by rw [eo]; exact (clv hK hb r _ (by omega) (by omega)).2, rfl⟩) (c23 hK (by omega) hb (c24 hK (by omega) hb (c1 _ ?_) g1) (Gz_chn (by decide) g1)) (Gz_chn (by decide) (Gz_chn (by decide) g1))⟩
    omega
theorem c20e (hK : KR T n) (hb : bC f m t s0) (hd : 52 ≤ d) : CZ xs L T n d s0 f m t 0 20 (eG (stepT f m) (lvG (stepT f m) 5).2) :=
  c20 hK (by omega) hb (c21 hK (by omega) hb (clv hK hb 5 _ (Nat.le_refl _) (by omega)).2 (Gz_lv 5).2) (Gz_chn (by decide) (Gz_lv 5).2)
end PAR2
