/-! leave, laws, join -/
/-- of the first k the one without whom it is done soonest -/
def lvV (V : Nat → Int) (k : Nat) (who few : Int) : Prop := (who = -1 ∧ few = -1 ∧ ∀ p, p < k → V p < 0) ∨ ∃ p, p < k ∧ who = (p : Nat) ∧ few = V p ∧ 0 ≤ V p ∧ (∀ q, q < k → 0 ≤ V q → V p ≤ V q) ∧ ∀ q, q < p → 0 ≤ V q → V p < V q
theorem lvV.skip {V : Nat → Int} {k : Nat} {who few : Int} (h : lvV V k who few) (hk : V k < 0 ∨ (0 ≤ few ∧ few ≤ V k)) : lvV V (k + 1) who few := by
  rcases h with ⟨rfl, rfl, h⟩ | ⟨p, h1, h2, h3, h4, h5, h6⟩
  · refine Or.inl ⟨rfl, rfl, fun p hp => ?_⟩
    by_cases e : p = k
    · subst e; omega
    · exact h p (by omega)
  · refine Or.inr ⟨p, by omega, h2, h3, h4, fun q hq hv => ?_, h6⟩
    by_cases e : q = k
    · subst e; omega
    · exact h5 q (by omega) hv
theorem lvV.take {V : Nat → Int} {k : Nat} {who few : Int} (h : lvV V k who few) (h0 : 0 ≤ V k) (hk : few < 0 ∨ V k < few) : lvV V (k + 1) (k : Nat) (V k) := by
  refine Or.inr ⟨k, by omega, rfl, rfl, h0, fun q hq hv => ?_, fun q hq hv => ?_⟩
  · by_cases e : q = k
    · subst e; exact Int.le_refl _
    · rcases h with ⟨rfl, rfl, h⟩ | ⟨p, h1, h2, h3, h4, h5, h6⟩
      · have := h q (by omega); omega
      · have := h5 q (by omega) hv; omega
  · rcases h with ⟨rfl, rfl, h⟩ | ⟨p, h1, h2, h3, h4, h5, h6⟩
    · have := h q (by omega); omega
    · have := h5 q (by omega) hv; omega
theorem lvV.uniq {V : Nat → Int} {k : Nat} {a b a2 b2 : Int} (h : lvV V k a b) (h2 : lvV V k a2 b2) : a = a2 ∧ b = b2 := by
  rcases h with ⟨rfl, rfl, h⟩ | ⟨p, p1, p2, p3, p4, p5, p6⟩
  · rcases h2 with ⟨rfl, rfl, _⟩ | ⟨q, q1, q2, q3, q4, q5, q6⟩
    · exact ⟨rfl, rfl⟩
    · have := h q q1; omega
  · rcases h2 with ⟨rfl, rfl, h⟩ | ⟨q, q1, q2, q3, q4, q5, q6⟩
    · have := h p p1; omega
    · have r1 := p5 q q1 q4
      have r2 := q5 p p1 p4
      rcases Nat.lt_trichotomy p q with e | e | e
      · have := q6 p e p4; omega
      · subst e; omega
      · have := p6 q e q4; omega
/-- the value for each -/
theorem lst_ex (w : Pl) (t n m x0 Lm : Nat) (Q : Nat → Prop) : ∃ r : Int, lst w t n m x0 Lm Q r := by
  by_cases h : ∃ k, ∃ y, DD w t n m x0 Lm y k ∧ Q y
  · have hb : ∀ N, ∀ k, k < N → (∃ y, DD w t n m x0 Lm y k ∧ Q y) → ∃ k, (∃ y, DD w t n m x0 Lm y k ∧ Q y) ∧ ∀ y j, DD w t n m x0 Lm y j → Q y → k ≤ j := by
      intro N
      induction N with
      | zero => intro k hk; omega
      | succ N ih =>
        intro k hk hy
        by_cases h2 : ∃ k2, k2 < k ∧ ∃ y, DD w t n m x0 Lm y k2 ∧ Q y
        · obtain ⟨k2, q1, q2⟩ := h2
          exact ih k2 (by omega) q2
        · exact ⟨k, hy, fun y j q1 q2 => Nat.le_of_not_lt fun hlt => h2 ⟨j, hlt, y, q1, q2⟩⟩
    obtain ⟨k, hy⟩ := h
    obtain ⟨k2, q1, q2⟩ := hb (k + 1) k (by omega) hy
    exact ⟨(k2 : Nat), Or.inr ⟨k2, rfl, q1, q2⟩⟩
  · exact ⟨-1, Or.inl ⟨rfl, fun y k hd hq => h ⟨k, y, hd, hq⟩⟩⟩
theorem lst.nn {w : Pl} {t n m x0 Lm : Nat} {Q : Nat → Prop} {r : Int} (h : lst w t n m x0 Lm Q r) : r = -1 ∨ (0 ≤ r ∧ r ≤ (Lm : Nat)) := by
  rcases h with ⟨rfl, _⟩ | ⟨k, rfl, ⟨y, h1, _⟩, _⟩
  · exact Or.inl rfl
  · have := h1.2.2
    omega
variable {xs : Nat → Int} {L : Nat} {d : Nat} {s : Pl}
/-- leave -/
theorem J111 {v : Int} (hd : 10 ≤ d) (hI : Inv s) : Ev xs L T0 106 d 111 [rf 1, it v] s (qi fun r s1 => Ev xs L T0 106 d 211 [rf 73, it v] s1 (qi fun r2 s2 => r2 = r ∧ Inv s2)) := by
  obtain ⟨w, t, n, x0, hw, hE⟩ := hI.wk
  have hn := hw.1.1.2
  obtain ⟨V, hV⟩ : ∃ V : Nat → Int, ∀ p, lst w t n 0 x0 400 (QT w n (fun q => decide (q ≠ p))) (V p) := by
    have := Classical.axiomOfChoice (fun p : Nat => lst_ex w t n 0 x0 400 (QT w n (fun q => decide (q ≠ p))))
    obtain ⟨V, hV⟩ := this
    exact ⟨V, hV⟩
  have good : (v = 0 ∨ v = 1) → Fr xs L T0 106 (d - 1) 111 12 [some (rf 1), some (it v), none, none, none, none] [] s (qi fun r s1 => Ev xs L T0 106 d 211 [rf 73, it v] s1 (qi fun r2 s2 => r2 = r ∧ Inv s2)) := by
    intro hv
    refine f111_12 (i123 (by omega) hw hE hI.h9 fun s1 k1 k2 k3 k4 => ?_)
    have hw1 := k1.wk hw
    have e11 := hw1.2.2.2.2.2.1.1
    -- the reference's end
    have model : ∀ who few : Int, lvV V n who few → Ev xs L T0 106 d 211 [rf 73, it v] s1 (qi fun r2 s2 => r2 = (if v = 0 then who else few) ∧ Inv s2) := by
      intro who few hwf
      refine e211 (by omega) (f211_0 (i132 (by omega) (fun _ => ⟨fun _ => ?_, fun z => absurd (by decide) z⟩) (fun q => absurd (by omega) q)))
      refine i195 (m := 0) (by omega) (by decide) hw1.1 hw1.2.2.2.1 hw1.2.2.1 hw1.2.2.2.2.1 fun s2 m1 m2 => ?_
      have l : ∀ (j k : Nat) (s3 : Pl) (v2 v3 v4 : Int) (w5 : Option AV), k + j = n → v4 = (k : Nat) → (∀ c i, c ≠ 97 → s3 c i = s2 c i) → (∃ f, lvV V k v2 f ∧ (v2 < 0 ∧ v3 = 0 ∨ 0 ≤ v2 ∧ v3 = f)) → Fr xs L T0 106 (d - 1) 211 24 [some (rf 73), some (it v), some (it v2), some (it v3), some (it v4), w5] [] s3 (qi fun r2 s2 => r2 = (if v = 0 then who else few) ∧ Inv s2) := by
        intro j
        induction j with
        | zero =>
          rintro k s3 v2 v3 v4 w5 hk h4 hf ⟨f, hl, hv3⟩
          have e : k = n := by omega
          subst e
          have hInv : Inv s3 := hw.fin hI.1 k1 (Or.inr k2) (fun _ => ⟨k3, k4⟩) (m2.fM.trans (f95.fM hf))
          have hu := hl.uniq hwf
          have hm := (m2.fM.trans (f95.fM hf)).2.mst hw1.2.2.2.1
          refine f211_24 ⟨fun _ => ⟨fun z => f211_81 ⟨?_, hInv⟩, fun z => ⟨fun q => ⟨?_, hInv⟩, fun q => f211_81 ⟨?_, hInv⟩⟩⟩, fun z => absurd (by rw [hm.2.2.1.2]; omega) z⟩
          · rcases hl with ⟨g1, g2, _⟩ | ⟨p, _, g1, _⟩
            · split <;> omega
            · omega
          · rw [if_neg q]; omega
          · rw [if_pos (Classical.not_not.mp q)]; omega
        | succ j ih =>
          rintro k s3 v2 v3 v4 w5 hk h4 hf ⟨f, hl, hv3⟩
          subst h4
          have zk : ∀ _ : Unit, zw ((k : Nat) + 1) = ((k + 1 : Nat) : Int) := fun _ => by rw [zw_id (by omega) (by omega)]; omega
          have hm := (m2.fM.trans (f95.fM hf)).2.mst hw1.2.2.2.1
          have hs3 : SolM w t n 0 x0 s3 := m1.cong (hf 72 37 (by decide)) (funext fun i => hf 93 i (by decide)) (funext fun i => hf 94 i (by decide))
          refine f211_24 ⟨fun z => absurd z (by rw [hm.2.2.1.2]; omega), fun _ => ?_⟩
          refine i196 (S := fun q => decide (q ≠ k)) (by omega) hw1.1 hm hs3 ?_ fun r s4 hr hf4 => ?_
          · rw [all_bits n hn, btn_an2 hn (by omega)]; simp
          · have er : r = V k := hr.uniq (fun _ _ _ => Iff.rfl) (hV k)
            have hf4' : ∀ c i, c ≠ 97 → s4 c i = s2 c i := fun c i hc => by rw [hf4 c i hc, hf c i hc]
            have hfew : ∀ {who f : Int}, lvV V k who f → (0 ≤ who ↔ 0 ≤ f) := fun {who f} q => by
              rcases q with ⟨g1, g2, _⟩ | ⟨p, _, g1, g2, g3, _⟩ <;> omega
            have := hfew hl
            have skip : (V k < 0 ∨ (0 ≤ f ∧ f ≤ V k)) → Fr xs L T0 106 (d - 1) 211 67 [some (rf 73), some (it v), some (it v2), some (it v3), some (it (k : Nat)), some (it r)] [] s4 (qi fun r2 s2 => r2 = (if v = 0 then who else few) ∧ Inv s2) := fun q => f211_67 (by
              rw [zk ()]
              exact ih (k + 1) s4 _ _ _ _ (by omega) rfl hf4' ⟨f, hl.skip q, hv3⟩)
            have take : 0 ≤ V k → (f < 0 ∨ V k < f) → Fr xs L T0 106 (d - 1) 211 61 [some (rf 73), some (it v), some (it v2), some (it v3), some (it (k : Nat)), some (it r)] [] s4 (qi fun r2 s2 => r2 = (if v = 0 then who else few) ∧ Inv s2) := fun q1 q2 => f211_61 (f211_67 (by
              rw [zk ()]
              exact ih (k + 1) s4 _ _ _ _ (by omega) rfl hf4' ⟨V k, hl.take q1 q2, Or.inr ⟨by omega, er⟩⟩))
            exact ⟨fun z => skip (Or.inl (by omega)), fun z => ⟨fun z2 => take (by omega) (Or.inl (by omega)), fun z2 => ⟨fun z3 => take (by omega) (Or.inr (by omega)), fun z3 => skip (Or.inr (by omega))⟩⟩⟩
      exact l n 0 s2 _ _ _ _ (by omega) rfl (fun _ _ _ => rfl) ⟨-1, Or.inl ⟨rfl, rfl, fun p hp => absurd hp (by omega)⟩, Or.inl ⟨by decide, rfl⟩⟩
    have l : ∀ (j k : Nat) (v2 v3 v4 : Int) (w5 : Option AV), k + j = n → v4 = (k : Nat) → lvV V k v2 v3 → Fr xs L T0 106 (d - 1) 111 23 [some (rf 1), some (it v), some (it v2), some (it v3), some (it v4), w5] [] s1 (qi fun r s1 => Ev xs L T0 106 d 211 [rf 73, it v] s1 (qi fun r2 s2 => r2 = r ∧ Inv s2)) := by
      intro j
      induction j with
      | zero =>
        intro k v2 v3 v4 w5 hk h4 hl
        have e : k = n := by omega
        subst e
        have hm := model v2 v3 hl
        refine f111_23 ⟨fun _ => ⟨fun q => ?_, fun q => ?_⟩, fun z => absurd (by omega) z⟩
        · rw [if_neg q] at hm; exact hm
        · rw [if_pos (Classical.not_not.mp q)] at hm; exact hm
      | succ j ih =>
        intro k v2 v3 v4 w5 hk h4 hl
        subst h4
        have zk : ∀ _ : Unit, zw ((k : Nat) + 1) = ((k + 1 : Nat) : Int) := fun _ => by rw [zw_id (by omega) (by omega)]; omega
        refine f111_23 ⟨fun z => absurd z (by omega), fun _ => i40 (by omega) hn e11 k3 ?_⟩
        rw [btn_an2 hn (by omega)]
        refine i60 (Q := QT w n (fun q => decide (q ≠ k))) (by omega) hn k4 (fun x => QT_need hn _ x) fun r hr => ?_
        have er : r = V k := hr.uniq (fun _ _ _ => Iff.rfl) (hV k)
        have hfew : v3 < 0 → v2 = -1 := fun q => by rcases hl with ⟨g1, g2, _⟩ | ⟨p, _, g1, g2, g3, _⟩ <;> omega
        have skip : (V k < 0 ∨ (0 ≤ v3 ∧ v3 ≤ V k)) → Fr xs L T0 106 (d - 1) 111 79 [some (rf 1), some (it v), some (it v2), some (it v3), some (it (k : Nat)), some (it r)] [] s1 (qi fun r s1 => Ev xs L T0 106 d 211 [rf 73, it v] s1 (qi fun r2 s2 => r2 = r ∧ Inv s2)) := fun q => f111_79 (by
          rw [zk ()]
          exact ih (k + 1) _ _ _ _ (by omega) rfl (hl.skip q))
        have take : 0 ≤ V k → (v3 < 0 ∨ V k < v3) → Fr xs L T0 106 (d - 1) 111 73 [some (rf 1), some (it v), some (it v2), some (it v3), some (it (k : Nat)), some (it r)] [] s1 (qi fun r s1 => Ev xs L T0 106 d 211 [rf 73, it v] s1 (qi fun r2 s2 => r2 = r ∧ Inv s2)) := fun q1 q2 => f111_73 (f111_79 (by
          rw [zk (), er]
          exact ih (k + 1) _ _ _ _ (by omega) rfl (hl.take q1 q2)))
        exact ⟨fun z => skip (Or.inl (by omega)), fun z => ⟨fun z2 => take (by omega) (Or.inl z2), fun z2 => ⟨fun z3 => skip (Or.inr (by omega)), fun z3 => take (by omega) (Or.inr (by omega))⟩⟩⟩
    exact l n 0 _ _ _ _ (by omega) rfl (Or.inl ⟨rfl, rfl, fun p hp => absurd hp (by omega)⟩)
  refine e111 (by omega) (f111_0 ⟨fun z3 => good (Or.inl z3), fun z3 => ⟨fun z4 => good (Or.inr z4), fun z4 => ?_⟩⟩)
  exact e211 (by omega) (f211_0 (i132 (by omega) (fun q => absurd (by omega) z4) (fun _ => ⟨fun z => absurd rfl z, fun _ => ⟨rfl, hI⟩⟩)))
theorem wOk.law {w s : Pl} {t n : Nat} (hk : wOk w t n) (hw : sW w s) (hj : JJ s) {t2 : Nat} (ht2 : (t2 : Int) < s 0 4) : wOk w t2 n := by
  obtain ⟨v1, _, _, _, _, _, _, _, v9, _⟩ := hj
  have h6 := v1.2.2.2.2.2
  refine ⟨hk.1, ⟨by omega, ?_⟩, hk.2.2⟩
  rw [← hw _ (stc22 t2 (by omega)).1, ← hw _ (stc22 t2 (by omega)).2]
  by_cases e : t2 = 0
  · subst e; exact gd0 v9.1
  · exact (v9.2 t2 (by omega) ht2).1
/-- laws -/
theorem J109 (hd : 10 ≤ d) (hI : Inv s) : Ev xs L T0 106 d 109 [rf 1] s (qi fun r s1 => Ev xs L T0 106 d 209 [rf 73] s1 (qi fun r2 s2 => r2 = r ∧ Inv s2)) := by
  obtain ⟨w, t, n, x0, hw, hE⟩ := hI.wk
  have hn := hw.1.1.2
  obtain ⟨⟨b1, b2, b3⟩, ⟨p1, p2, p3⟩, ⟨l1, l2, l3⟩, t1, t2, t3⟩ := hI.1.1
  obtain ⟨T, hT⟩ : ∃ T : Nat, s 0 4 = (T : Nat) := ⟨(s 0 4).toNat, by omega⟩
  obtain ⟨V, hV⟩ : ∃ V : Nat → Int, ∀ p, lst w p n 0 x0 400 (QT w n (fun _ => true)) (V p) := by
    obtain ⟨V, hV⟩ := Classical.axiomOfChoice (fun p : Nat => lst_ex w p n 0 x0 400 (QT w n (fun _ => true)))
    exact ⟨V, hV⟩
  have hkt : ∀ q : Nat, q < T → wOk w q n := fun q hq => hw.1.law hw.2.1 hI.1 (by omega)
  have model : ∀ s1 : Pl, fQ s s1 → (s1 0 9 = 0 ∨ s1 0 9 = 1) → (s1 0 9 ≠ 0 → Lrn w t n s1 ∧ SolC w t n 0 x0 400 s1) → Ev xs L T0 106 d 209 [rf 73] s1 (qi fun r2 s2 => r2 = ((btn (fun q => decide (0 ≤ V q)) T : Nat) : Int) ∧ Inv s2) := by
    intro s1 f1 h9 he
    have hw1 := f1.wk hw
    have e13 : s1 72 13 = (T : Nat) := by rw [f1 72 13 (by unfold scr; omega) (by decide), t1]; exact hT
    have e14 : s1 72 14 = (t : Nat) := hw1.2.2.2.1.2.2.1.1
    have l : ∀ (j k : Nat) (s2 : Pl) (v2 v3 : Int), k + j = T → v3 = (k : Nat) → v2 = ((btn (fun q => decide (0 ≤ V q)) k : Nat) : Int) → fM s1 (zup s2 72 14 (t : Nat)) → Fr xs L T0 106 (d - 1) 209 9 [some (rf 73), some (it (t : Nat)), some (it v2), some (it v3)] [] s2 (qi fun r2 s2 => r2 = ((btn (fun q => decide (0 ≤ V q)) T : Nat) : Int) ∧ Inv s2) := by
      intro j
      induction j with
      | zero =>
        intro k s2 v2 v3 hk h3 h2 hf
        have e : k = T := by omega
        subst e
        refine f209_9 ⟨fun _ => ⟨h2, hw.fin hI.1 f1 h9 he hf⟩, fun z => absurd ?_ z⟩
        have := hf.2 72 13 (by unfold scr; omega) (by decide)
        rw [zg, if_neg (by decide)] at this
        rw [this, e13]; omega
      | succ j ih =>
        intro k s2 v2 v3 hk h3 h2 hf
        subst h3
        have zk : ∀ _ : Unit, zw ((k : Nat) + 1) = ((k + 1 : Nat) : Int) := fun _ => by rw [zw_id (by omega) (by omega)]; omega
        have e213 : s2 72 13 = (T : Nat) := by
          have := hf.2 72 13 (by unfold scr; omega) (by decide)
          rw [zg, if_neg (by decide)] at this
          rw [this, e13]
        have hm0 := hf.2.mst hw1.2.2.2.1
        have hx0 := hf.2.mx hw1.2.2.2.2.1
        have h04 : s1 0 4 = (T : Nat) := by rw [f1 0 4 (by unfold scr; omega) (by decide)]; exact hT
        have h04' : s2 0 4 = (T : Nat) := by
          have := hf.1 0 (by decide)
          rw [zune _ _ _ (by decide)] at this
          rw [this]; exact h04
        have hm2 : Mst w k n (zup s2 72 14 (k : Nat)) := by
          obtain ⟨q1, ⟨q2, q3, q4⟩, ⟨q5, q6⟩, q7, q8⟩ := hm0
          have hc : ∀ c, c ≠ 72 → (zup s2 72 14 (k : Nat)) c = (zup s2 72 14 (t : Nat)) c := fun c hc => by rw [zune _ _ _ hc, zune _ _ _ hc]
          refine ⟨fun c h22 hc2 => by rw [hc c (by have := stc_out hc2; omega)]; exact q1 c h22 hc2, ⟨?_, ?_, ?_⟩, ⟨by rw [zg, if_pos ⟨rfl, rfl⟩], ?_⟩, fun p hp => ?_, fun i h0 h1 => ?_⟩
          · exact cX (s := zup s2 72 14 (t : Nat)) q4 (fun c i hm => by rw [hc c (by unfold mX at hm; omega)]) q2
          · rw [zune _ _ _ (by decide), h04']; omega
          · rw [zune _ _ _ (by decide), h04']; omega
          · rw [zg, if_neg (by decide)] at q6 ⊢; exact q6
          · rw [hc 74 (by decide), hc 76 (by decide), hc 77 (by decide), hc 78 (by decide), hc 79 (by decide), hc 80 (by decide)]; exact q7 p hp
          · rw [hc 73 (by decide)]; exact q8 i h0 h1
        have hx2 : mx n x0 (zup s2 72 14 (k : Nat)) := by
          obtain ⟨q1, q2⟩ := hx0
          refine ⟨?_, fun r hr => ?_⟩
          · rw [zg, if_neg (by decide)] at q1 ⊢; exact q1
          · have := q2 r hr
            rw [zune _ _ _ (by decide)] at this ⊢; exact this
        refine f209_9 ⟨fun z => absurd z (by omega), fun _ => ?_⟩
        refine i197 (m := 0) (by omega) (by decide) (hkt k (by omega)) hm2 hw1.2.2.1 hx2 fun r s3 hr hf3 => ?_
        have er := hr.uniq (fun _ _ _ => Iff.rfl) (hV k)
        have hf4 : fM s1 (zup s3 72 14 (t : Nat)) := by
          have key : fM (zup s2 72 14 (t : Nat)) (zup s3 72 14 (t : Nat)) := ⟨fun c hc => by
            rw [zune _ _ _ (by omega), zune _ _ _ (by omega)]
            have := hf3.1 c hc
            rw [zune _ _ _ (by omega)] at this
            exact this, fun c i a b => by
            rw [zg, zg]
            by_cases e : c = 72 ∧ i = 14
            · rw [if_pos e, if_pos e]
            · rw [if_neg e, if_neg e, hf3.2 c i a b, zg, if_neg e]⟩
          exact hf.trans key
        have nx : ∀ v : Int, v = ((btn (fun q => decide (0 ≤ V q)) (k + 1) : Nat) : Int) → Fr xs L T0 106 (d - 1) 209 36 [some (rf 73), some (it (t : Nat)), some (it v), some (it (k : Nat))] [] s3 (qi fun r2 s2 => r2 = ((btn (fun q => decide (0 ≤ V q)) T : Nat) : Int) ∧ Inv s2) := fun v hv => f209_36 (by
          rw [zk ()]
          exact ih (k + 1) s3 _ _ (by omega) rfl hv hf4)
        refine ⟨fun z => nx _ ?_, fun z => nx _ ?_⟩
        · rw [h2]; simp only [btn]; rw [if_neg (by simp; omega)]; rfl
        · rw [h2, zor_bitL k (by omega) _ (btn_lt _ k)]; simp only [btn]; rw [if_pos (by simp; omega)]
    refine e209 (by omega) (f209_0 ?_)
    rw [e14]
    refine l T 0 s1 _ _ (by omega) rfl rfl ⟨fun c hc => zune _ _ _ (by omega), fun c i a b => ?_⟩
    rw [zg]
    by_cases e : c = 72 ∧ i = 14
    · rw [if_pos e, e.1, e.2, e14]
    · rw [if_neg e]
  have l : ∀ (j k : Nat) (s1 : Pl) (v1 v2 : Int), k + j = T → v2 = (k : Nat) → v1 = ((btn (fun q => decide (0 ≤ V q)) k : Nat) : Int) → fQ s s1 → (k = 0 ∧ s1 = s ∨ s1 0 9 = 0) → Fr xs L T0 106 (d - 1) 109 4 [some (rf 1), some (it v1), some (it v2)] [] s1 (qi fun r s1 => Ev xs L T0 106 d 209 [rf 73] s1 (qi fun r2 s2 => r2 = r ∧ Inv s2)) := by
    intro j
    induction j with
    | zero =>
      intro k s1 v1 v2 hk h2 h1 hf hs
      have e : k = T := by omega
      subst e
      refine f109_4 ⟨fun _ => ?_, fun z => absurd (by rw [hf 0 4 (by unfold scr; omega) (by decide)]; omega) z⟩
      rw [h1]
      have h0 : s1 0 9 = 0 := by
        rcases hs with ⟨q, _⟩ | q
        · omega
        · exact q
      exact model s1 hf (Or.inl h0) (fun q => absurd h0 q)
    | succ j ih =>
      intro k s1 v1 v2 hk h2 h1 hf hs
      subst h2
      have zk : ∀ _ : Unit, zw ((k : Nat) + 1) = ((k + 1 : Nat) : Int) := fun _ => by rw [zw_id (by omega) (by omega)]; omega
      have hw1 := hf.wk hw
      refine f109_4 ⟨fun z => absurd z (by rw [hf 0 4 (by unfold scr; omega) (by decide)]; omega), fun _ => ⟨fun z => absurd z (by omega), fun _ => ⟨by omega, fun tq htq _ => ?_⟩⟩⟩
      have e : tq = k := by omega
      subst e
      refine i124 (m := 0) (by omega) (by decide) (hkt tq (by omega)) hw1.2.1 hw1.2.2.1 hw1.2.2.2.2.2.1.1 hw1.2.2.2.2.2.2.1 hw1.2.2.2.2.2.2.2.1 fun r s2 hr hf2 h02 => ?_
      have er := hr.uniq (fun _ _ _ => Iff.rfl) (hV tq)
      have nx : ∀ v : Int, v = ((btn (fun q => decide (0 ≤ V q)) (tq + 1) : Nat) : Int) → Fr xs L T0 106 (d - 1) 109 41 [some (rf 1), some (it v), some (it (tq : Nat))] [] s2 (qi fun r s1 => Ev xs L T0 106 d 209 [rf 73] s1 (qi fun r2 s2 => r2 = r ∧ Inv s2)) := fun v hv => f109_41 (by
        rw [zk ()]
        exact ih (tq + 1) s2 _ _ (by omega) rfl hv (hf.trans hf2) (Or.inr h02))
      refine ⟨fun z => nx _ ?_, fun z => nx _ ?_⟩
      · rw [h1]; simp only [btn]; rw [if_neg (by simp; omega)]; rfl
      · rw [h1, zor_bitL tq (by omega) _ (btn_lt _ tq)]; simp only [btn]; rw [if_pos (by simp; omega)]
  exact e109 (by omega) (f109_0 (l T 0 s _ _ (by omega) rfl rfl (fQ.refl s) (Or.inl ⟨rfl, rfl⟩)))
