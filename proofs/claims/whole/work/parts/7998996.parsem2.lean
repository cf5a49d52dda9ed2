/-! the reference's grammar: sums, ones, nots, rules -/
section PAM2
variable {xs : Nat → Int} {L : Nat} {d : Nat} {s s0 : Pl} {f : Int → Int} {m : Nat} {o : Int}
theorem stpS {k : Int} (h : k = 42 ∨ k = 43 ∨ k = 45 ∨ k = 60 ∨ k = 61) : stp k 0 (-k) := Or.inr (Or.inr (Or.inr (Or.inr (Or.inr (Or.inr ⟨h, rfl⟩)))))
theorem rM.sg {x : TxS} (h : rM s0 o x s) (hk : 12 ≤ x.tk ∧ x.tk < 300) : s 72 24 = x.tk := (h.1.2.2.1.2.1 hk.1 hk.2).2
theorem lp155 {F : TxS → TxR} (hd : 4 ≤ d) (hb : tM f m s0) (hF : MZ xs L d s0 m o 156 F) (hG : Gz m F) : ∀ (j i : Nat) (x : TxS) (s : Pl) (P : Pl → Prop) (w1 : Option AV), i + j = 161 → wfS m x → i ≤ x.p → rM s0 o x s → (∀ z s1, lpT opS (stepT f m) F j x = .inl z → rM s0 o z s1 → P s1) → (∀ p s1, lpT opS (stepT f m) F j x = .inr p → nM s0 (((x.l : Nat) : Int) + (((p : Nat) : Int) - ((x.p : Nat) : Int))) p s1 → P s1) → Fr xs L T0 106 d 155 4 [some (rf 73), w1] [] s (qv P) := by
  have hm := hb.1.2
  intro j
  induction j with
  | zero =>
    intro i x s P w1 hi hw hp
    have := hw.1
    have := hw.2.1
    omega
  | succ j ih =>
    intro i x s P w1 hi hw hp h k1 k0
    have w1 := hw.1
    have w2 := hw.2.1
    have w4 := hw.2.2.2.1
    have go : (x.tk = 43 ∨ x.tk = 45) → ∀ w9 : Option AV, Fr xs L T0 106 d 155 22 [some (rf 73), w9] [] s (qv P) := by
      intro q w9
      have w3 := hw.2.2.1 (by omega)
      have st := stepT_ok (f := f) (x := x) w2 (by omega)
      have eq : lpT opS (stepT f m) F (j + 1) x = bnd (F (stepT f m x)) fun y => lpT opS (stepT f m) F j (addT (-x.tk) y) := by
        show (match opS x.tk with | none => _ | some c => _) = _
        unfold opS
        rw [if_pos q]
      rw [eq] at k1 k0
      have s2p := st.2.1
      have s2l := st.2.2.1
      refine f155_22 ?_
      rw [h.sg (by omega)]
      refine m146 (by omega) hb h w2 (fun s1 r1 => hF _ _ _ st.1 r1 (fun z s2 ez r2 => ?_) (fun p s2 ep r2 => ?_))
      · have g := hG _ st.1
        rw [ez] at g k1 k0
        have g1 := g.2.1
        have g2 := g.2.2
        have zw1 := g.1.1
        have zw2 := g.1.2.1
        refine m150 (by omega) r2 (by omega) (stpS (by omega)) (fun s3 r3 => ?_)
        refine ih (i + 1) (addT (-x.tk) z) s3 P _ (by omega) (wf_add g.1 (by omega)) (show i + 1 ≤ z.p by omega) r3 k1 (fun p s4 ep r4 => k0 p s4 ep (r4.up ?_))
        have e9 : (addT (-x.tk) z).p = z.p := rfl
        have e8 : (addT (-x.tk) z).l = z.l + 1 := rfl
        omega
      · have g := hG _ st.1
        rw [ep] at g k0
        have g1 := g.1
        have g2 := g.2
        refine m150n (by omega) r2 (B2 := ((x.l : Nat) : Int) + (((p : Nat) : Int) - ((x.p : Nat) : Int))) (by omega) (fun s3 r3 => f155_4 (m148n (by omega) r3 ⟨fun g => absurd rfl g, fun _ => m148n (by omega) r3 ⟨fun _ => k0 p s3 rfl r3, fun g => absurd rfl g⟩⟩))
    refine f155_4 (m148 (by omega) h hw (by decide) (fun q => ⟨fun _ => go (Or.inl q) _, fun g => absurd (show ¬ (1 : Int) = 0 by decide) g⟩) (fun q => ⟨fun g => absurd rfl g, fun _ => m148 (by omega) h hw (by decide) (fun q2 => ⟨fun g => absurd g (by decide), fun _ => go (Or.inr q2) _⟩) (fun q2 => ⟨fun _ => k1 x s (by unfold lpT opS; rw [if_neg (by omega)]) h, fun g => absurd rfl g⟩)⟩))
theorem m155 (hd : 5 ≤ d) (hb : tM f m s0) {F : TxS → TxR} (hF : MZ xs L (d - 1) s0 m o 156 F) (hG : Gz m F) : MZ xs L d s0 m o 155 (chn opS (stepT f m) F) := fun x s P hw h k1 k0 => by
  refine e155 (by omega) (f155_0 ?_)
  unfold chn at k1 k0
  refine hF x s _ hw h (fun z s1 ez r1 => ?_) (fun p s1 ep r1 => ?_)
  · rw [ez] at k1 k0
    have g := hG x hw
    rw [ez] at g
    exact lp155 (by omega) hb hF hG 161 0 z s1 P _ rfl g.1 (Nat.zero_le _) r1 k1 (fun p s2 ep r2 => k0 p s2 ep (r2.up (by have := g.2.2; omega)))
  · rw [ep] at k0
    exact f155_4 (m148n (by omega) r1 ⟨fun g => absurd rfl g, fun _ => m148n (by omega) r1 ⟨fun _ => k0 p s1 rfl r1, fun g => absurd rfl g⟩⟩)
def MO (xs : Nat → Int) (L d : Nat) (s0 : Pl) (f : Int → Int) (m : Nat) (o : Int) (y : Nat) (F : TxS → TxR) : Prop := (o < 5 ∧ ∃ N, Gz m N ∧ MZ xs L d s0 m (o + 1) y N ∧ F = fun x => N (stepT f m x)) ∨ (¬ o < 5 ∧ F = stopG)
theorem m157 (hd : 6 ≤ d) (hb : tM f m s0) (ho : 0 ≤ o ∧ o ≤ 5) {o1 oE : TxS → TxR} (h1 : MO xs L (d - 1) s0 f m o 157 o1) (hE : MO xs L (d - 1) s0 f m o 152 oE) : MZ xs L d s0 m o 157 (oneG (stepT f m) o1 oE) := by
  intro x s P hw h k1 k0
  have hm := hb.1.2
  have w1 := hw.1
  have w2 := hw.2.1
  have w4 := hw.2.2.2.1
  have w5 := hw.2.2.2.2.1
  have w6 := hw.2.2.2.2.2.1
  have zo : zw (o + 1 - 1) = o := by rw [zw_id (by omega) (by omega)]; omega
  obtain ⟨t1, t2, t3, t4, t5⟩ := h.1.2.2.1
  have h19 := h.1.2.2.2.2.1
  have wst : x.tk ≠ 301 → x.p < x.nx ∧ wfS m (stepT f m x) ∧ x.nx ≤ (stepT f m x).p ∧ (stepT f m x).l = x.l := fun q => by
    have w3 := hw.2.2.1 q
    have st := stepT_ok (f := f) (x := x) w2 (by omega)
    exact ⟨w3, st.1, st.2.1, st.2.2.1⟩
  have leaf : ∀ (w v c : Int), x.tk ≠ 301 → stp w v c → oneG (stepT f m) o1 oE x = .inl (stepT f m (addT c x)) → Ev xs L T0 106 (d - 1) 150 [rf 73, it w, it v] s (qv fun s1 => Ev xs L T0 106 (d - 1) 146 [rf 73] s1 (qv fun s2 => P s2)) := by
    intro w v c q hs eq
    refine m150 (by omega) h (by omega) hs (fun s1 r1 => m146 (by omega) hb r1 w2 (fun s2 r2 => k1 _ s2 eq r2))
  have rest : ¬ x.tk = 300 → ¬ x.tk < 6 → Fr xs L T0 106 (d - 1) 157 65 [some (rf 73)] [] s (qv P) := by
    intro q3 q4
    refine f157_65 (m148 (by omega) h hw (by decide) (fun q1 => ⟨fun g => absurd g (by decide), fun _ => ?_⟩) (fun q1 => ⟨fun _ => m148 (by omega) h hw (by decide) (fun q2 => ⟨fun g => absurd g (by decide), fun _ => ?_⟩) (fun q2 => ⟨fun _ => ?_, fun g => absurd rfl g⟩), fun g => absurd rfl g⟩))
    · obtain ⟨w3, st1, st2, st3⟩ := wst (by omega)
      have eq : oneG (stepT f m) o1 oE x = bnd (o1 x) fun y => .inl (addT (-13) y) := by unfold oneG; rw [if_pos q1]
      rw [eq] at k1 k0
      rcases h1 with ⟨h5, N, gN, cN, rfl⟩ | ⟨h5, rfl⟩
      · refine m151 (by omega) hb ho h w2 (fun _ s1 r1 => ⟨fun _ => ?_, fun g => absurd (show ¬ (1 : Int) = 0 by decide) g⟩) (fun g => absurd h5 g)
        refine cN _ _ _ st1 r1 (fun z s2 ez r2 => ?_) (fun p s2 ep r2 => ?_)
        · have g := gN _ st1
          dsimp only at k1 k0
          rw [ez] at g k1 k0
          rw [r2.1.2.2.2.2.2, zo]
          refine m150 (by omega) (r2.opn o) ?_ (Or.inr (Or.inr (Or.inr (Or.inl ⟨rfl, rfl⟩)))) (fun s4 r4 => k1 _ s4 rfl r4)
          have := g.2.2
          have := g.1.1
          have := g.1.2.1
          omega
        · have g := gN _ st1
          dsimp only at k0
          rw [ep] at k0 g
          have g1 := g.1
          have g2 := g.2
          exact m150n (by omega) (r2.opn _) (B2 := ((x.l : Nat) : Int) + (((p : Nat) : Int) - ((x.p : Nat) : Int))) (by omega) (fun s3 r3 => k0 p s3 rfl r3)
      · refine m151 (by omega) hb ho h w2 (fun g => absurd g h5) (fun _ s1 r1 => ⟨fun g => absurd rfl g, fun _ => k0 x.p s1 rfl (r1.up (by omega))⟩)
    · obtain ⟨w3, st1, st2, st3⟩ := wst (by omega)
      have eq : oneG (stepT f m) o1 oE x = bnd (oE x) fun y => if y.tk = 41 then .inl (stepT f m y) else .inr y.p := by unfold oneG; rw [if_neg q1, if_pos q2]
      rw [eq] at k1 k0
      rcases hE with ⟨h5, N, gN, cN, rfl⟩ | ⟨h5, rfl⟩
      · refine m151 (by omega) hb ho h w2 (fun _ s1 r1 => ⟨fun _ => ?_, fun g => absurd (show ¬ (1 : Int) = 0 by decide) g⟩) (fun g => absurd h5 g)
        refine cN _ _ _ st1 r1 (fun z s2 ez r2 => ?_) (fun p s2 ep r2 => ?_)
        · have g := gN _ st1
          dsimp only at k1 k0
          rw [ez] at g k1 k0
          refine m148 (by omega) r2 g.1 (by decide) (fun q => ⟨fun _ => ?_, fun g => absurd (show ¬ (1 : Int) = 0 by decide) g⟩) (fun q => ⟨fun g => absurd rfl g, fun _ => ?_⟩)
          · rw [r2.1.2.2.2.2.2, zo]
            exact m146 (by omega) hb (r2.opn o) g.1.2.1 (fun s3 r3 => k1 _ s3 (by show (if z.tk = 41 then _ else _) = _; rw [if_pos q]) r3)
          · exact m147 (by omega) r2 (fun s3 r3 => k0 z.p s3 (by show (if z.tk = 41 then _ else _) = _; rw [if_neg q]) (r3.up (by have := g.2.2; omega)))
        · have g := gN _ st1
          dsimp only at k0
          rw [ep] at k0 g
          have g1 := g.1
          have g2 := g.2
          exact m148n (by omega) r2 ⟨fun g => absurd rfl g, fun _ => m147n (by omega) r2 (k0 p s2 rfl (r2.up (by omega)))⟩
      · refine m151 (by omega) hb ho h w2 (fun g => absurd g h5) (fun _ s1 r1 => ⟨fun g => absurd rfl g, fun _ => k0 x.p s1 rfl (r1.up (by omega))⟩)
    · exact m147 (by omega) h (fun s3 r3 => k0 x.p s3 (by unfold oneG; rw [if_neg q1, if_neg q2, if_neg q3, if_neg q4]) (r3.up (by omega)))
  refine e157 (by omega) (f157_0 ?_)
  rw [h19]
  refine ⟨fun _ => ⟨fun q => ⟨fun q2 => rest (fun w => q (t3 w).1) (fun w => q2 (t1 (by omega)).1), fun q2 => ?_⟩, fun q => ?_⟩, fun g => absurd (by decide) g⟩
  · have q2 : s 72 23 = 1 := Decidable.not_not.mp q2
    have c2 : x.tk < 12 := by
      by_cases q9 : x.tk < 12
      · exact q9
      · exfalso
        by_cases q3 : x.tk < 300
        · have := (t2 (by omega) q3).1; omega
        · rcases (show x.tk = 300 ∨ x.tk = 301 ∨ x.tk = 302 by omega) with q4 | q4 | q4
          · have := (t3 q4).1; omega
          · have := t4 q4; omega
          · have := t5 q4; omega
    have e := (t1 c2).2
    by_cases q6 : x.tk < 6
    · have em : meanOf x.tk = x.tk := by unfold meanOf; rw [if_neg (by omega), if_pos q6]
      rw [e, em]
      exact ⟨fun g => absurd g (by omega), fun _ => leaf 2 x.tk (-1 - x.tk) (by omega) (Or.inr (Or.inl ⟨rfl, by omega, by omega, rfl⟩)) (by unfold oneG; rw [if_neg (by omega), if_neg (by omega), if_neg (by omega), if_pos q6])⟩
    · have em : meanOf x.tk = x.tk + 4 := by unfold meanOf; rw [if_neg (by omega), if_neg q6]
      rw [e, em]
      exact ⟨fun _ => rest (by omega) q6, fun g => absurd (by omega) g⟩
  · have q : s 72 23 = 2 := Decidable.not_not.mp q
    have c2 : x.tk = 300 := by
      by_cases q9 : x.tk < 12
      · have := (t1 q9).1; omega
      · by_cases q3 : x.tk < 300
        · have := (t2 (by omega) q3).1; omega
        · rcases (show x.tk = 300 ∨ x.tk = 301 ∨ x.tk = 302 by omega) with q4 | q4 | q4
          · exact q4
          · have := t4 q4; omega
          · have := t5 q4; omega
    rw [(t3 c2).2]
    have := hw.2.2.2.2.2.2 c2
    exact leaf 1 x.am x.am (by omega) (Or.inl ⟨rfl, this.1, rfl⟩) (by unfold oneG; rw [if_neg (by omega), if_neg (by omega), if_pos c2])
theorem m154 (hd : 6 ≤ d) (hb : tM f m s0) (ho : 0 ≤ o ∧ o ≤ 5) {oN sum : TxS → TxR} (hN : MO xs L (d - 1) s0 f m o 154 oN) (hS : MZ xs L (d - 1) s0 m o 155 sum) (hG : Gz m sum) : MZ xs L d s0 m o 154 (notG (stepT f m) oN sum) := by
  intro x s P hw h k1 k0
  have hm := hb.1.2
  have w1 := hw.1
  have w2 := hw.2.1
  have w4 := hw.2.2.2.1
  have zo : zw (o + 1 - 1) = o := by rw [zw_id (by omega) (by omega)]; omega
  refine e154 (by omega) (f154_0 (m149 (by omega) h hw (by decide) (fun q1 => ⟨fun g => absurd g (by decide), fun _ => ?_⟩) (fun q1 => ⟨fun _ => ?_, fun g => absurd rfl g⟩)))
  · have q1 : x.tk = 11 := q1
    have w3 := hw.2.2.1 (by omega)
    have st := stepT_ok (f := f) (x := x) w2 (by omega)
    have s2p := st.2.1
    have s2l := st.2.2.1
    have eq : notG (stepT f m) oN sum x = bnd (oN x) fun y => .inl (addT (-12) y) := by unfold notG; rw [if_pos q1]
    rw [eq] at k1 k0
    rcases hN with ⟨h5, N, gN, cN, rfl⟩ | ⟨h5, rfl⟩
    · refine m151 (by omega) hb ho h w2 (fun _ s1 r1 => ⟨fun _ => ?_, fun g => absurd (show ¬ (1 : Int) = 0 by decide) g⟩) (fun g => absurd h5 g)
      refine cN _ _ _ st.1 r1 (fun z s2 ez r2 => ?_) (fun p s2 ep r2 => ?_)
      · have g := gN _ st.1
        dsimp only at k1 k0
        rw [ez] at g k1 k0
        rw [r2.1.2.2.2.2.2, zo]
        refine m150 (by omega) (r2.opn o) ?_ (Or.inr (Or.inr (Or.inl ⟨rfl, rfl⟩))) (fun s4 r4 => k1 _ s4 rfl r4)
        have := g.2.2
        have := g.1.1
        have := g.1.2.1
        omega
      · have g := gN _ st.1
        dsimp only at k0
        rw [ep] at k0 g
        have g1 := g.1
        have g2 := g.2
        exact m150n (by omega) (r2.opn _) (B2 := ((x.l : Nat) : Int) + (((p : Nat) : Int) - ((x.p : Nat) : Int))) (by omega) (fun s3 r3 => k0 p s3 rfl r3)
    · refine m151 (by omega) hb ho h w2 (fun g => absurd g h5) (fun _ s1 r1 => ⟨fun g => absurd rfl g, fun _ => k0 x.p s1 rfl (r1.up (by omega))⟩)
  · have q1 : ¬ x.tk = 11 := q1
    have eq : notG (stepT f m) oN sum x = bnd (sum x) fun y => if y.tk = 60 ∨ y.tk = 61 then bnd (sum (stepT f m y)) fun z => .inl (addT (-y.tk) z) else .inl y := by unfold notG; rw [if_neg q1]
    rw [eq] at k1 k0
    refine hS _ _ _ hw h (fun y s1 ey r1 => ?_) (fun p s1 ep r1 => ?_)
    · have g := hG _ hw
      rw [ey] at g k1 k0
      have y1 := g.1.1
      have y2 := g.1.2.1
      have y4 := g.1.2.2.2.1
      have g4 := g.2.2
      have g5 := g.2.1
      have go : (y.tk = 60 ∨ y.tk = 61) → Fr xs L T0 106 (d - 1) 154 61 [some (rf 73), none] [] s1 (qv P) := by
        intro q
        have y3 := g.1.2.2.1 (by omega)
        have st := stepT_ok (f := f) (x := y) y2 (by omega)
        have s2p := st.2.1
        have s2l := st.2.2.1
        have eq2 : (bnd (.inl y) fun y => if y.tk = 60 ∨ y.tk = 61 then bnd (sum (stepT f m y)) fun z => .inl (addT (-y.tk) z) else .inl y : TxR) = bnd (sum (stepT f m y)) fun z => .inl (addT (-y.tk) z) := by
          show (if y.tk = 60 ∨ y.tk = 61 then _ else _) = _
          rw [if_pos q]
        rw [eq2] at k1 k0
        refine f154_61 ?_
        rw [r1.sg (by omega)]
        refine m146 (by omega) hb r1 y2 (fun s2 r2 => hS _ _ _ st.1 r2 (fun z s3 ez r3 => ?_) (fun p s3 ep r3 => ?_))
        · have g3 := hG _ st.1
          rw [ez] at g3 k1 k0
          refine m150 (by omega) r3 ?_ (stpS (by omega)) (fun s4 r4 => k1 _ s4 rfl r4)
          have := g3.2.2
          have := g3.1.1
          have := g3.1.2.1
          omega
        · have g3 := hG _ st.1
          rw [ep] at g3 k0
          have := g3.1
          have := g3.2
          exact m150n (by omega) r3 (B2 := ((x.l : Nat) : Int) + (((p : Nat) : Int) - ((x.p : Nat) : Int))) (by omega) (fun s4 r4 => k0 p s4 rfl r4)
      refine m148 (by omega) r1 g.1 (by decide) (fun q => ⟨fun _ => go (Or.inl q), fun g => absurd (show ¬ (1 : Int) = 0 by decide) g⟩) (fun q => ⟨fun g => absurd rfl g, fun _ => m148 (by omega) r1 g.1 (by decide) (fun q2 => ⟨fun _ => go (Or.inr q2), fun g => absurd (show ¬ (1 : Int) = 0 by decide) g⟩) (fun q2 => ⟨fun g => absurd rfl g, fun _ => k1 y s1 ?_ r1⟩)⟩)
      show (if y.tk = 60 ∨ y.tk = 61 then _ else _) = _
      rw [if_neg (by omega)]
    · rw [ep] at k0
      exact m148n (by omega) r1 ⟨fun g => absurd rfl g, fun _ => m148n (by omega) r1 ⟨fun g => absurd rfl g, fun _ => k0 p s1 rfl r1⟩⟩
theorem mlv (hb : tM f m s0) : ∀ (r d : Nat), r ≤ 5 → 20 + 6 * r ≤ d → MZ xs L d s0 m (5 - (r : Int)) 157 (lvG (stepT f m) r).1 ∧ MZ xs L d s0 m (5 - (r : Int)) 154 (lvG (stepT f m) r).2
  | 0, d, _, hd => by
    have c1 : ∀ d, 11 ≤ d → MZ xs L d s0 m (5 - ((0 : Nat) : Int)) 157 (oneG (stepT f m) stopG stopG) := fun d hd => m157 (by omega) hb (by decide) (Or.inr ⟨by decide, rfl⟩) (Or.inr ⟨by decide, rfl⟩)
    have g1 := (Gz_lv (f := f) (m := m) 0).1
    exact ⟨c1 d (by omega), m154 (by omega) hb (by decide) (Or.inr ⟨by decide, rfl⟩) (m155 (by omega) hb (m156 (by omega) hb (c1 _ (by omega)) g1) (Gz_chn (by decide) g1)) (Gz_chn (by decide) (Gz_chn (by decide) g1))⟩
  | r + 1, d, hr, hd => by
    have g := Gz_lv (f := f) (m := m) r
    have g1 := (Gz_lv (f := f) (m := m) (r + 1)).1
    have eo : (5 - ((r + 1 : Nat) : Int)) + 1 = 5 - (r : Int) := by omega
    have hE : ∀ d, 22 + 6 * r ≤ d → MZ xs L d s0 m (5 - (r : Int)) 152 (eG (stepT f m) (lvG (stepT f m) r).2) := fun d hd => m152 (by omega) hb (m153 (by omega) hb (mlv hb r _ (by omega) (by omega)).2 g.2) (Gz_chn (by decide) g.2)
    have c1 : ∀ d, 23 + 6 * r ≤ d → MZ xs L d s0 m (5 - ((r + 1 : Nat) : Int)) 157 (lvG (stepT f m) (r + 1)).1 := fun d hd => m157 (by omega) hb (by omega) (Or.inl ⟨by omega, _, g.1, by rw [eo]; exact (mlv hb r _ (by omega) (by omega)).1, rfl⟩) (Or.inl ⟨by omega, _, Gz_e r, by rw [eo]; exact hE _ (by omega), rfl⟩)
    refine ⟨c1 d (by omega), m154 (by omega) hb (by omega) (Or.inl ⟨by omega, _, g.2, by rw [eo]; exact (mlv hb r _ (by omega) (by omega)).2, rfl⟩) (m155 (by omega) hb (m156 (by omega) hb (c1 _ ?_) g1) (Gz_chn (by decide) g1)) (Gz_chn (by decide) (Gz_chn (by decide) g1))⟩
    omega
theorem m152e (hb : tM f m s0) (hd : 52 ≤ d) : MZ xs L d s0 m 0 152 (eG (stepT f m) (lvG (stepT f m) 5).2) :=
  m152 (by omega) hb (m153 (by omega) hb (mlv hb 5 _ (Nat.le_refl _) (by omega)).2 (Gz_lv 5).2) (Gz_chn (by decide) (Gz_lv 5).2)
end PAM2
