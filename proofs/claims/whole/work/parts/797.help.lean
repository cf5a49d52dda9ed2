/-! help -/
theorem JJ.kN {s s1 : Pl} {n : Nat} (hj : JJ s) (h1 : s 1 1 = (n : Nat)) (hn6 : n ≤ 6) (h : ∀ c i, ¬ scr c i → ¬ (c = 0 ∧ i = 9) → ¬ (2 ≤ c ∧ c ≤ 8 ∧ i = (n : Nat)) → ¬ (74 ≤ c ∧ c ≤ 80 ∧ i = (n : Nat)) → s1 c i = s c i) (h9 : s1 0 9 = 0) : JJ s1 := by
  have e11 : s1 1 1 = (n : Nat) := by rw [h 1 1 (by unfold scr; omega) (by omega) (by omega) (by omega)]; exact h1
  have eo : ∀ (c : Nat) (i : Int), i ≠ (n : Nat) → 2 ≤ c ∧ c ≤ 8 ∨ 74 ≤ c ∧ c ≤ 80 → s1 c i = s c i := fun c i q q1 => h c i (by unfold scr; omega) (by omega) (by omega) (by omega)
  obtain ⟨v1, v2, v3, v4, v5, v6, v7, v8, v9, v10, v11⟩ := hj
  have h4 := v1.2.2.2.2.2
  refine ⟨cL (fun c i m => h c i ?_ ?_ ?_ ?_) v1, cH (fun c i m => h c i ?_ ?_ ?_ ?_) v2, ?_, ?_, cM (fun c i m => h c i ?_ ?_ ?_ ?_) v5, cT (fun c i m => h c i ?_ ?_ ?_ ?_) v6, ?_, cS (fun c i m => h c i ?_ ?_ ?_ ?_) v8, cX h4 (fun c i m => h c i ?_ ?_ ?_ ?_) v9, cW (fun c i m => h c i ?_ ?_ ?_ ?_) v10, ?_⟩
  any_goals (first | (unfold mL at m; unfold scr; omega) | (unfold mL at m; omega) | (unfold mH at m; unfold scr; omega) | (unfold mH at m; omega) | (unfold mM at m; unfold scr; omega) | (unfold mM at m; omega) | (unfold mT at m; unfold scr; omega) | (unfold mT at m; omega) | (unfold mS at m; unfold scr; omega) | (unfold mS at m; omega) | (unfold mX at m; unfold scr; omega) | (unfold mX at m; omega) | (unfold scr; omega) | omega)
  · refine ⟨fun i q1 q2 => by rw [h 9 i (by unfold scr; omega) (by omega) (by omega) (by omega)]; exact v3.1 i q1 q2, fun q i q1 q2 => ?_, ?_, Or.inl h9⟩
    · rw [h 0 2 (by unfold scr; omega) (by omega) (by omega) (by omega)] at q
      rw [h 18 i (by unfold scr; omega) (by omega) (by omega) (by omega)]
      exact v3.2.1 q i q1 q2
    · rw [h 0 2 (by unfold scr; omega) (by omega) (by omega) (by omega)]; exact v3.2.2.1
  · intro q q0 q1
    rw [e11] at q1
    have e : q ≠ (n : Nat) := by omega
    have := v4 q q0 (by omega)
    unfold vP1 at *
    rw [eo 2 q e (by omega), eo 3 q e (by omega), eo 4 q e (by omega), eo 5 q e (by omega), eo 6 q e (by omega), eo 7 q e (by omega), eo 8 q e (by omega), eo 74 q e (by omega), eo 75 q e (by omega), eo 76 q e (by omega), eo 77 q e (by omega), eo 78 q e (by omega), eo 79 q e (by omega), eo 80 q e (by omega)]
    exact this
  · have g : ∀ (c : Nat) (i : Int), c = 0 ∧ (i = 2 ∨ i = 4) ∨ 10 ≤ c ∧ c ≤ 18 ∨ c = 72 ∧ 45 ≤ i ∧ i ≤ 48 ∨ 99 ≤ c ∧ c ≤ 101 → s1 c i = s c i := fun c i m => h c i (by unfold scr; omega) (by omega) (by omega) (by omega)
    refine ⟨by rw [g 72 45 (by omega), g 0 2 (by omega)]; exact v7.1, fun q => ?_⟩
    rw [g 0 2 (by omega)] at q
    obtain ⟨w1, w2, w3, w4, w5⟩ := v7.2 q
    unfold vK1
    rw [g 72 47 (by omega), g 10 0 (by omega), g 72 46 (by omega), g 10 1 (by omega), g 72 48 (by omega), g 10 2 (by omega), g 0 4 (by omega), e11]
    refine ⟨w1, ⟨w2.1, w2.2.1, by omega⟩, w3, fun i q0 q1 => by rw [g 101 i (by omega), g 18 i (by omega)]; exact w4 i q0 q1, fun p0 q0 q1 => ?_⟩
    have e : p0 ≠ (n : Nat) := by omega
    rw [g 99 p0 (by omega), g 11 p0 (by omega), g 100 p0 (by omega), g 17 p0 (by omega), g 12 p0 (by omega), g 13 p0 (by omega), g 14 p0 (by omega), g 15 p0 (by omega), g 16 p0 (by omega), eo 3 p0 e (by omega), eo 4 p0 e (by omega), eo 5 p0 e (by omega), eo 6 p0 e (by omega), eo 7 p0 e (by omega)]
    exact w5 p0 q0 q1
  · refine ⟨?_, fun q => ?_⟩
    · rw [e11, Int.toNat_natCast]
      have hb3 := v11.1
      rw [h1, Int.toNat_natCast] at hb3
      have e : cnt (fun q => decide (s1 2 q = 4)) n = cnt (fun q => decide (s 2 q = 4)) n := cnt_cong fun q hq => by rw [eo 2 q (by omega) (by omega)]
      rw [e]; exact hb3
    · rw [h 0 2 (by unfold scr; omega) (by omega) (by omega) (by omega)] at q
      have := v11.2 q
      rw [h 10 1 (by unfold scr; omega) (by omega) (by omega) (by omega), cnt_cong (f := fun p => decide (s1 11 p = 4)) (g := fun p => decide (s 11 p = 4)) (fun p _ => by rw [h 11 _ (by unfold scr; omega) (by omega) (by omega) (by omega)])]
      exact this
def xhl (x0 n l : Nat) : Nat := enc (bt x0) (fun r => if r = n then l else pl x0 r)
theorem xhl_bt (x0 n l : Nat) : bt (xhl x0 n l) = bt x0 := bt_enc (bt_lt x0)
theorem xhl_lt {x0 n l : Nat} (hl : l < 4) : ∀ r, r < 6 → (fun r => if r = n then l else pl x0 r) r < 5 := by
  intro r _
  have := pl_lt x0 r
  show (if r = n then l else pl x0 r) < 5
  split <;> omega
theorem xhl_pl {x0 n l r : Nat} (hl : l < 4) (hr : r < 6) : pl (xhl x0 n l) r = if r = n then l else pl x0 r := pl_enc (bt_lt x0) (xhl_lt hl) hr
theorem xhl_ok {x0 n l : Nat} (hl : l < 4) (hx : okx n x0) : okx (n + 1) (xhl x0 n l) := by
  refine ⟨enc_lt (bt_lt x0) (xhl_lt hl), fun r h1 h2 => ?_⟩
  rw [xhl_pl hl h2, if_neg (by omega)]
  exact hx.2 r (by omega) h2
theorem wOk.padd {w : Pl} {t n l : Nat} (hk : wOk w t n) (hn : n < 6) : wOk (pad w n 3 (l : Nat) 0 0 0 0) t (n + 1) := by
  obtain ⟨⟨q1, q2⟩, ⟨q3, q4⟩, q5, q6⟩ := hk
  have hc : ∀ c, c = 9 ∨ 22 ≤ c → pad w n 3 (l : Nat) 0 0 0 0 c = w c := fun c hc => funext fun i => by rw [pad_at, if_neg (by omega), if_neg (by omega)]
  refine ⟨⟨by rw [pad_at, if_pos ⟨rfl, rfl⟩], by omega⟩, ⟨q3, by rw [hc _ (by omega), hc _ (by omega)]; exact q4⟩, fun p hp => ?_, fun i h0 h1 => by rw [hc 9 (by omega)]; exact q6 i h0 h1⟩
  by_cases e : p = n
  · subst e
    rw [pad_at, if_neg (by omega), if_pos ⟨by omega, by omega, rfl⟩, pad_at, if_neg (by omega), if_pos ⟨by omega, by omega, rfl⟩, pad_at, if_neg (by omega), if_pos ⟨by omega, by omega, rfl⟩, pad_at, if_neg (by omega), if_pos ⟨by omega, by omega, rfl⟩, pad_at, if_neg (by omega), if_pos ⟨by omega, by omega, rfl⟩]
    simp [pdv]
  · have := q5 p (by omega)
    rw [pad_at, if_neg (by omega), if_neg (by omega), pad_at, if_neg (by omega), if_neg (by omega), pad_at, if_neg (by omega), if_neg (by omega), pad_at, if_neg (by omega), if_neg (by omega), pad_at, if_neg (by omega), if_neg (by omega)]
    exact this
def hlV (V : Nat → Int) (what r : Int) : Prop := (r = -1 ∧ ∀ l, l < 4 → V l < 0) ∨ ∃ l, l < 4 ∧ 0 ≤ V l ∧ (∀ k, k < l → V k < 0) ∧ r = if what = 0 then ((l : Nat) : Int) else V l
theorem hlV.uniq {V : Nat → Int} {what a b : Int} (h : hlV V what a) (h2 : hlV V what b) : a = b := by
  rcases h with ⟨rfl, h⟩ | ⟨l, p1, p2, p3, rfl⟩
  · rcases h2 with ⟨rfl, _⟩ | ⟨k, q1, q2, q3, rfl⟩
    · rfl
    · have := h k q1; omega
  · rcases h2 with ⟨rfl, h⟩ | ⟨k, q1, q2, q3, rfl⟩
    · have := h l p1; omega
    · rcases Nat.lt_trichotomy l k with e | e | e
      · have := q3 l e; omega
      · subst e; rfl
      · have := p3 k e; omega
variable {xs : Nat → Int} {L : Nat} {d : Nat} {s : Pl}
theorem J108 {v : Int} (hd : 12 ≤ d) (hI : Inv s) : Ev xs L T0 106 d 108 [rf 1, it v] s (qi fun r s1 => Ev xs L T0 106 d 208 [rf 73, it v] s1 (qi fun r2 s2 => r2 = r ∧ Inv s2)) := by
  obtain ⟨w, t, n, x0, hw, hE⟩ := hI.wk
  have hn := hw.1.1.2
  have ht := hw.1.2.1.1
  have e11 := hw.2.2.2.2.2.1.1
  have h703 : ∀ s1, fQ s s1 → s1 72 3 = (n : Nat) := fun s1 h => (h.wk hw).2.2.2.1.2.2.1.2
  have good : (v = 0 ∨ v = 1) → Fr xs L T0 106 (d - 1) 108 12 [some (rf 1), some (it v), none, none] [] s (qi fun r s1 => Ev xs L T0 106 d 208 [rf 73, it v] s1 (qi fun r2 s2 => r2 = r ∧ Inv s2)) := by
    intro hv
    refine f108_12 ⟨fun hn6 => i123 (by omega) hw hE hI.h9 fun s1 k1 k2 k3 k4 => ?_, fun hn6 => ?_⟩
    · have hw1 := k1.wk hw
      have hn5 : n < 6 := by omega
      obtain ⟨V, hV⟩ : ∃ V : Nat → Int, ∀ l, lst (pad w n 3 (l : Nat) 0 0 0 0) t (n + 1) 0 (xhl x0 n l) 400 (QT (pad w n 3 (l : Nat) 0 0 0 0) (n + 1) (fun _ => true)) (V l) := by
        obtain ⟨V, hV⟩ := Classical.axiomOfChoice (fun l : Nat => lst_ex (pad w n 3 (l : Nat) 0 0 0 0) t (n + 1) 0 (xhl x0 n l) 400 (QT (pad w n 3 (l : Nat) 0 0 0 0) (n + 1) (fun _ => true)))
        exact ⟨V, hV⟩
      refine i61 (by omega) hn hw1.2.2.2.2.2.1.1 k3 k4 fun H hH => ⟨fun hneg => ?_, fun hpos => ?_⟩
      · -- the reference
        have model : ∀ (r : Int) (sE : Pl), hlV V v r → (∀ c i, ¬ scr c i → ¬ (c = 0 ∧ i = 9) → ¬ (2 ≤ c ∧ c ≤ 8 ∧ i = (n : Nat)) → sE c i = s c i) → sE 0 9 = 0 → Ev xs L T0 106 d 208 [rf 73, it v] sE (qi fun r2 s2 => r2 = r ∧ Inv s2) := by
          intro r sE hr hfE zE
          have mstE : ∀ s2 : Pl, (∀ c i, 9 ≤ c → ¬ scr c i → s2 c i = sE c i) → s2 0 4 = sE 0 4 → Mst w t n s2 := by
            intro s2 h2 h24
            obtain ⟨q1, ⟨q2, q3, q4⟩, ⟨q5, q6⟩, q7, q8⟩ := hw.2.2.2.1
            have g : ∀ c i, 9 ≤ c → ¬ scr c i → s2 c i = s c i := fun c i a b => by rw [h2 c i a b]; exact hfE c i b (by omega) (by omega)
            have g4 : s2 0 4 = s 0 4 := by rw [h24]; exact hfE 0 4 (by unfold scr; omega) (by omega) (by omega)
            refine ⟨fun c h22 hc2 => ?_, ⟨cX q4 (fun c i hm => ?_) q2, by rw [g4]; exact q3, by rw [g4]; exact q4⟩, ⟨by rw [g 72 14 (by omega) (by unfold scr; omega)]; exact q5, by rw [g 72 3 (by omega) (by unfold scr; omega)]; exact q6⟩, fun p hp => ?_, fun i h0 h1 => by rw [g 73 i (by omega) (by unfold scr; omega)]; exact q8 i h0 h1⟩
            · rw [← q1 c h22 hc2]
              exact funext fun i => g c i (by omega) (scr_stc hc2 i)
            · by_cases e : c = 0
              · have : i = 4 := by unfold mX at hm; omega
                rw [e, this, g4]
              · exact g c i (by unfold mX at hm; omega) (by unfold mX at hm; unfold scr; omega)
            · rw [g 74 _ (by omega) (by unfold scr; omega), g 76 _ (by omega) (by unfold scr; omega), g 77 _ (by omega) (by unfold scr; omega), g 78 _ (by omega) (by unfold scr; omega), g 79 _ (by omega) (by unfold scr; omega), g 80 _ (by omega) (by unfold scr; omega)]; exact q7 p hp
          have mxE : ∀ s2 : Pl, (∀ c i, 9 ≤ c → ¬ scr c i → s2 c i = sE c i) → mx n x0 s2 := by
            intro s2 h2
            have g : ∀ c i, 9 ≤ c → ¬ scr c i → s2 c i = s c i := fun c i a b => by rw [h2 c i a b]; exact hfE c i b (by omega) (by omega)
            exact ⟨by rw [g 72 2 (by omega) (by unfold scr; omega)]; exact hw.2.2.2.2.1.1, fun r hr => by rw [g 75 _ (by omega) (by unfold scr; omega)]; exact hw.2.2.2.2.1.2 r hr⟩
          have hmE := mstE sE (fun _ _ _ _ => rfl) rfl
          have e703 : sE 72 3 = (n : Nat) := hmE.2.2.1.2
          refine e208 (by omega) (f208_0 (i132 (by omega) (fun _ => ⟨fun _ => ⟨fun _ => ?_, fun z => absurd z (by rw [e703]; omega)⟩, fun z => absurd (by decide) z⟩) (fun q => absurd (by omega) q)))
          refine i197 (m := 0) (by omega) (by decide) hw.1 hmE hw.2.2.1 (mxE sE (fun _ _ _ _ => rfl)) fun r2 sM hr2 hfM => ?_
          have e := hr2.uniq (fun _ _ _ => Iff.rfl) hH
          have m703 : sM 72 3 = (n : Nat) := by rw [hfM.2 72 3 (by unfold scr; omega) (by omega)]; exact e703
          refine ⟨fun _ => ?_, fun z => absurd (by omega) z⟩
          have zn1 : ∀ _ : Unit, zw ((n : Nat) + 1) = ((n + 1 : Nat) : Int) := fun _ => by rw [zw_id (by omega) (by omega)]; omega
          simp only [z7072, z7074, z7075, z7076, z7077, z7078, m703, zn1 ()]
          refine ⟨by omega, by omega, by omega, by omega, by omega, by omega, ?_⟩
          -- a plane in the loop
          have lp : ∀ (j k : Nat) (s2 : Pl) (v3 v4 : Int), k + j = 4 → (∀ c i, ¬ scr c i → ¬ (74 ≤ c ∧ c ≤ 80 ∧ i = (n : Nat)) → ¬ (c = 72 ∧ i = 3) → ¬ (c = 0 ∧ i = 9) → s2 c i = sE c i) → (∀ c, c < 72 → s2 c = sE c) → s2 72 3 = ((n + 1 : Nat) : Int) → (∀ c, 74 ≤ c → c ≤ 80 → c ≠ 75 → s2 c (n : Nat) = if c = 74 then 3 else 0) → ((v3 = -1 ∧ ∀ l, l < k → V l < 0) ∨ ∃ l, l < 4 ∧ 0 ≤ V l ∧ (∀ q, q < l → V q < 0) ∧ v3 = (l : Nat) ∧ v4 = V l) → Fr xs L T0 106 (d - 1) 208 99 [some (rf 73), some (it v), some (it (n : Nat)), some (it v3), some (it v4), some (it (k : Nat))] [] s2 (qi fun r2 s2 => r2 = r ∧ Inv s2) := by
            intro j
            have fin : ∀ (s2 : Pl) (v3 v4 v5 : Int), (∀ c i, ¬ scr c i → ¬ (74 ≤ c ∧ c ≤ 80 ∧ i = (n : Nat)) → ¬ (c = 72 ∧ i = 3) → ¬ (c = 0 ∧ i = 9) → s2 c i = sE c i) → (∀ c, c < 72 → s2 c = sE c) → s2 72 3 = ((n + 1 : Nat) : Int) → ((v3 = -1 ∧ ∀ l, l < 4 → V l < 0) ∨ ∃ l, l < 4 ∧ 0 ≤ V l ∧ (∀ q, q < l → V q < 0) ∧ v3 = (l : Nat) ∧ v4 = V l) → Fr xs L T0 106 (d - 1) 208 138 [some (rf 73), some (it v), some (it (n : Nat)), some (it v3), some (it v4), some (it v5)] [] s2 (qi fun r2 s2 => r2 = r ∧ Inv s2) := by
              intro s2 v3 v4 v5 g1 g2 g3 hv3
              have zn2 : ∀ _ : Unit, zw (((n + 1 : Nat) : Int) - 1) = (n : Nat) := fun _ => by rw [zw_id (by omega) (by omega)]; omega
              have hInv : Inv (zup s2 72 3 (n : Nat)) := by
                have hz : (zup s2 72 3 (n : Nat)) 0 9 = 0 := by rw [zune _ _ _ (by decide), g2 0 (by decide)]; exact zE
                refine Inv.of0 (hI.1.kN e11 hn (fun c i a b e f => ?_) hz) hz
                rw [zg]
                by_cases e9 : c = 72 ∧ i = 3
                · rw [if_pos e9, e9.1, e9.2]; exact (h703 s (fQ.refl s)).symm
                · rw [if_neg e9, g1 c i a f e9 b]; exact hfE c i a b e
              refine f208_138 ?_
              rw [g3, zn2 ()]
              rcases hv3 with ⟨rfl, hno⟩ | ⟨l, q1, q2, q3, q4, q5⟩
              · have er : r = -1 := hr.uniq (Or.inl ⟨rfl, hno⟩)
                exact ⟨fun _ => f208_156 ⟨er.symm, hInv⟩, fun z => absurd (by decide) z⟩
              · have er := hr.uniq (Or.inr ⟨l, q1, q2, q3, rfl⟩)
                refine ⟨fun z => absurd z (by omega), fun _ => ⟨fun z => ⟨?_, hInv⟩, fun z => f208_156 ⟨?_, hInv⟩⟩⟩
                · rw [er, if_neg z]; exact q5
                · rw [er, if_pos (Classical.not_not.mp z)]; exact q4
            induction j with
            | zero =>
              intro k s2 v3 v4 hk g1 g2 g3 g4 hv3
              have e4 : k = 4 := by omega
              subst e4
              exact f208_99 ⟨fun _ => fin s2 v3 v4 _ g1 g2 g3 hv3, fun z => absurd (by omega) z⟩
            | succ j ih =>
              intro k s2 v3 v4 hk g1 g2 g3 g4 hv3
              have zk : ∀ _ : Unit, zw ((k : Nat) + 1) = ((k + 1 : Nat) : Int) := fun _ => by rw [zw_id (by omega) (by omega)]; omega
              have hk4 : k < 4 := by omega
              rcases hv3 with ⟨rfl, hno⟩ | hex
              · refine f208_99 ⟨fun z => absurd z (by omega), fun _ => ⟨fun z => absurd z (by decide), fun _ => ⟨by omega, ?_⟩⟩⟩
                have gS : ∀ c i, ¬ scr c i → ¬ (74 ≤ c ∧ c ≤ 80 ∧ i = (n : Nat)) → ¬ (c = 72 ∧ i = 3) → ¬ (c = 0 ∧ i = 9) → (zup s2 75 (n : Nat) (k : Nat)) c i = sE c i := fun c i a b e f => by rw [zg, if_neg (by omega)]; exact g1 c i a b e f
                have gL : ∀ c, c < 72 → (zup s2 75 (n : Nat) (k : Nat)) c = sE c := fun c hc => by rw [zune _ _ _ (by omega)]; exact g2 c hc
                have gN : ∀ c, 74 ≤ c → c ≤ 80 → c ≠ 75 → (zup s2 75 (n : Nat) (k : Nat)) c (n : Nat) = if c = 74 then 3 else 0 := fun c a b e => by rw [zune _ _ _ e]; exact g4 c a b e
                have gK : (zup s2 75 (n : Nat) (k : Nat)) 75 (n : Nat) = (k : Nat) := by rw [zg, if_pos ⟨rfl, rfl⟩]
                have g3' : (zup s2 75 (n : Nat) (k : Nat)) 72 3 = ((n + 1 : Nat) : Int) := by rw [zune _ _ _ (by decide)]; exact g3
                generalize zup s2 75 (n : Nat) (k : Nat) = S at gS gL gN gK g3'
                have hm2 : Mst (pad w n 3 (k : Nat) 0 0 0 0) t (n + 1) S := by
                  obtain ⟨q1, ⟨q2, q3, q4⟩, ⟨q5, q6⟩, q7, q8⟩ := hmE
                  refine ⟨fun c h22 hc2 => ?_, ⟨cX q4 (fun c i hm => ?_) q2, by rw [gL 0 (by decide)]; exact q3, by rw [gL 0 (by decide)]; exact q4⟩, ⟨by rw [gS 72 14 (by unfold scr; omega) (by omega) (by omega) (by omega)]; exact q5, g3'⟩, fun p hp => ?_, fun i h0 h1 => ?_⟩
                  · have := stc_out hc2
                    rw [gL c (by omega), q1 c h22 hc2]
                    exact (funext fun i => by rw [pad_at, if_neg (by omega), if_neg (by omega)])
                  · by_cases e : c < 72
                    · rw [gL c e]
                    · exact gS c i (by unfold mX at hm; unfold scr; omega) (by unfold mX at hm; omega) (by unfold mX at hm; omega) (by omega)
                  · by_cases e : p = n
                    · subst e
                      have gz : ∀ c, 76 ≤ c → c ≤ 80 → S c (p : Nat) = 0 := fun c a b => by rw [gN c (by omega) b (by omega), if_neg (by omega)]
                      have gy : S 74 (p : Nat) = 3 := by rw [gN 74 (by omega) (by omega) (by omega), if_pos rfl]
                      have pv : ∀ c, 2 ≤ c → c ≤ 8 → pad w p 3 (k : Nat) 0 0 0 0 c (p : Nat) = pdv c 3 (k : Nat) 0 0 0 0 := fun c a b => by rw [pad_at, if_neg (by omega), if_pos ⟨a, b, rfl⟩]
                      rw [gy, gz 76 (by omega) (by omega), gz 77 (by omega) (by omega), gz 78 (by omega) (by omega), gz 79 (by omega) (by omega), gz 80 (by omega) (by omega), pv 3 (by omega) (by omega), pv 4 (by omega) (by omega), pv 5 (by omega) (by omega), pv 6 (by omega) (by omega), pv 7 (by omega) (by omega), pv 8 (by omega) (by omega)]
                      simp [pdv]
                    · have hp2 := q7 p (by omega)
                      rw [gS 74 _ (by unfold scr; omega) (by omega) (by omega) (by omega), gS 76 _ (by unfold scr; omega) (by omega) (by omega) (by omega), gS 77 _ (by unfold scr; omega) (by omega) (by omega) (by omega), gS 78 _ (by unfold scr; omega) (by omega) (by omega) (by omega), gS 79 _ (by unfold scr; omega) (by omega) (by omega) (by omega), gS 80 _ (by unfold scr; omega) (by omega) (by omega) (by omega), pad_at, if_neg (by omega), if_neg (by omega), pad_at, if_neg (by omega), if_neg (by omega), pad_at, if_neg (by omega), if_neg (by omega), pad_at, if_neg (by omega), if_neg (by omega), pad_at, if_neg (by omega), if_neg (by omega), pad_at, if_neg (by omega), if_neg (by omega)]
                      exact hp2
                  · rw [gS 73 i (by unfold scr; omega) (by omega) (by omega) (by omega), pad_at, if_neg (by omega), if_neg (by omega)]
                    exact q8 i h0 h1
                have hx2 : mx (n + 1) (xhl x0 n k) S := by
                  have hxE := mxE sE (fun _ _ _ _ => rfl)
                  refine ⟨by rw [xhl_bt, gS 72 2 (by unfold scr; omega) (by omega) (by omega) (by omega)]; exact hxE.1, fun q hq => ?_⟩
                  rw [xhl_pl hk4 (by omega)]
                  by_cases e : q = n
                  · subst e; rw [if_pos rfl]; exact gK
                  · rw [if_neg e, gS 75 _ (by unfold scr; omega) (by omega) (by omega) (by omega)]; exact hxE.2 q (by omega)
                refine i197 (m := 0) (by omega) (by decide) (hw.1.padd hn5) hm2 (xhl_ok hk4 hw.2.2.1) hx2 fun r5 s5 hr5 hf5 => ?_
                have er5 := hr5.uniq (fun _ _ _ => Iff.rfl) (hV k)
                have h1' : ∀ c i, ¬ scr c i → ¬ (74 ≤ c ∧ c ≤ 80 ∧ i = (n : Nat)) → ¬ (c = 72 ∧ i = 3) → ¬ (c = 0 ∧ i = 9) → s5 c i = sE c i := fun c i a b e f => by rw [hf5.2 c i a f]; exact gS c i a b e f
                have h2' : ∀ c, c < 72 → s5 c = sE c := fun c hc => by rw [hf5.1 c hc]; exact gL c hc
                have h3' : s5 72 3 = ((n + 1 : Nat) : Int) := by rw [hf5.2 72 3 (by unfold scr; omega) (by omega)]; exact g3'
                have h4' : ∀ c, 74 ≤ c → c ≤ 80 → c ≠ 75 → s5 c (n : Nat) = if c = 74 then 3 else 0 := fun c a b e => by rw [hf5.2 c _ (by unfold scr; omega) (by omega)]; exact gN c a b e
                refine ⟨fun z => f208_132 ?_, fun z => f208_132 ?_⟩
                · rw [zk ()]
                  refine ih (k + 1) s5 _ _ (by omega) h1' h2' h3' h4' (Or.inl ⟨rfl, fun l hl => ?_⟩)
                  by_cases e : l = k
                  · subst e; omega
                  · exact hno l (by omega)
                · rw [zk ()]
                  exact ih (k + 1) s5 _ _ (by omega) h1' h2' h3' h4' (Or.inr ⟨k, hk4, by omega, hno, rfl, er5⟩)
              · obtain ⟨l, q1, q2, q3, q4, q5⟩ := hex
                exact f208_99 ⟨fun z => absurd z (by omega), fun _ => ⟨fun _ => fin s2 v3 v4 _ g1 g2 g3 (Or.inr ⟨l, q1, q2, q3, q4, q5⟩), fun z => absurd (by omega) z⟩⟩
          refine lp 4 0 _ _ _ rfl (fun c i a b e f => ?_) (fun c hc => ?_) ?_ (fun c a b e => ?_) (Or.inl ⟨rfl, fun l hl => absurd hl (by omega)⟩)
          · rw [zg, if_neg e, zg, if_neg (by omega), zg, if_neg (by omega), zg, if_neg (by omega), zg, if_neg (by omega), zg, if_neg (by omega), zg, if_neg (by omega)]
            exact hfM.2 c i a f
          · rw [zune _ _ _ (by omega), zune _ _ _ (by omega), zune _ _ _ (by omega), zune _ _ _ (by omega), zune _ _ _ (by omega), zune _ _ _ (by omega), zune _ _ _ (by omega)]
            exact hfM.1 c hc
          · rw [zg, if_pos ⟨rfl, rfl⟩]
          · have hc : c = 74 ∨ c = 76 ∨ c = 77 ∨ c = 78 ∨ c = 79 ∨ c = 80 := by omega
            rcases hc with rfl | rfl | rfl | rfl | rfl | rfl <;> simp [zg]
        -- the class
        have l : ∀ (j k : Nat) (s2 : Pl) (w3 : Option AV), k + j = 4 → (∀ c i, ¬ scr c i → ¬ (c = 0 ∧ i = 9) → ¬ (2 ≤ c ∧ c ≤ 8 ∧ i = (n : Nat)) → s2 c i = s c i) → (0 < k → s2 0 9 = 0) → (∀ q, q < k → V q < 0) → Fr xs L T0 106 (d - 1) 108 45 [some (rf 1), some (it v), some (it (k : Nat)), w3] [] s2 (qi fun r s1 => Ev xs L T0 106 d 208 [rf 73, it v] s1 (qi fun r2 s2 => r2 = r ∧ Inv s2)) := by
          intro j
          induction j with
          | zero =>
            intro k s2 w3 hk hf h0 hno
            have e4 : k = 4 := by omega
            subst e4
            exact f108_45 ⟨fun _ => model (-1) s2 (Or.inl ⟨rfl, hno⟩) hf (h0 (by decide)), fun z => absurd (by omega) z⟩
          | succ j ih =>
            intro k s2 w3 hk hf h0 hno
            have zk : ∀ _ : Unit, zw ((k : Nat) + 1) = ((k + 1 : Nat) : Int) := fun _ => by rw [zw_id (by omega) (by omega)]; omega
            have z10 : ∀ _ : Unit, zw (10 * (k : Nat)) = ((10 * k : Nat) : Int) := fun _ => by rw [zw_id (by omega) (by omega)]; omega
            have hk4 : k < 4 := by omega
            have e211 : s2 1 1 = (n : Nat) := by rw [hf 1 1 (by unfold scr; omega) (by omega) (by omega)]; exact e11
            refine f108_45 ⟨fun z => absurd z (by omega), fun _ => ?_⟩
            rw [z10 ()]
            refine i3 (ways := 10 * k) (bw := 0) (by omega) hn5 e211 (by omega) (by omega) ?_
            rw [show 10 * k / 10 = k from by omega, show 10 * k % 10 = 0 from by omega, show (0 : Nat) / 100 = 0 from rfl, show (0 : Nat) % 100 = 0 from rfl]
            have hsw : sW (pad w n 3 (k : Nat) 0 0 0 0) (pad s2 n 3 (k : Nat) ((0 : Nat) : Int) ((0 : Nat) : Int) ((0 : Nat) : Int) 0) := fun c hc => funext fun i => by
              rw [pad_at, pad_at]
              by_cases e1 : c = 1 ∧ i = 1
              · rw [if_pos e1, if_pos e1]
              · rw [if_neg e1, if_neg e1]
                by_cases e2 : 2 ≤ c ∧ c ≤ 8 ∧ i = (n : Nat)
                · rw [if_pos e2, if_pos e2]; rfl
                · have := stc_out hc
                  rw [if_neg e2, if_neg e2, hf c i (scr_stc hc i) (by omega) e2, hw.2.1 c hc]
            have p10 : pad s2 n 3 (k : Nat) ((0 : Nat) : Int) ((0 : Nat) : Int) ((0 : Nat) : Int) 0 1 0 = (bt (xhl x0 n k) : Nat) := by
              rw [pad_at, if_neg (by omega), if_neg (by omega), hf 1 0 (by unfold scr; omega) (by omega) (by omega), xhl_bt]; exact hw.2.2.2.2.2.2.1
            have p12 : pad s2 n 3 (k : Nat) ((0 : Nat) : Int) ((0 : Nat) : Int) ((0 : Nat) : Int) 0 1 2 = (t : Nat) := by
              rw [pad_at, if_neg (by omega), if_neg (by omega), hf 1 2 (by unfold scr; omega) (by omega) (by omega)]; exact hw.2.2.2.2.2.1.2
            have p2 : ∀ r : Nat, r < n + 1 → pad s2 n 3 (k : Nat) ((0 : Nat) : Int) ((0 : Nat) : Int) ((0 : Nat) : Int) 0 2 r = (pl (xhl x0 n k) r : Nat) := fun r hr => by
              rw [pad_at, if_neg (by omega), xhl_pl hk4 (by omega)]
              by_cases e : r = n
              · subst e; rw [if_pos ⟨by omega, by omega, rfl⟩, if_pos rfl]; rfl
              · rw [if_neg (by omega), if_neg e, hf 2 _ (by unfold scr; omega) (by omega) (by omega)]; exact hw.2.2.2.2.2.2.2.1 r (by omega)
            have pO : ∀ (c : Nat) (i : Int), ¬ (c = 1 ∧ i = 1) → ¬ (2 ≤ c ∧ c ≤ 8 ∧ i = (n : Nat)) → pad s2 n 3 (k : Nat) ((0 : Nat) : Int) ((0 : Nat) : Int) ((0 : Nat) : Int) 0 c i = s2 c i := fun c i a b => by rw [pad_at, if_neg a, if_neg b]
            have p11 : pad s2 n 3 (k : Nat) ((0 : Nat) : Int) ((0 : Nat) : Int) ((0 : Nat) : Int) 0 1 1 = ((n + 1 : Nat) : Int) := by rw [pad_at, if_pos ⟨rfl, rfl⟩]
            generalize pad s2 n 3 (k : Nat) ((0 : Nat) : Int) ((0 : Nat) : Int) ((0 : Nat) : Int) 0 = S at hsw p10 p12 p2 pO p11
            refine i122 (by omega) ht p12 ⟨t, ht, rfl, ?_⟩
            refine i124 (m := 0) (by omega) (by decide) (hw.1.padd hn5) hsw (xhl_ok hk4 hw.2.2.1) p11 p10 p2 fun r4 s4 hr4 hf4 h04 => ?_
            have er4 := hr4.uniq (fun _ _ _ => Iff.rfl) (hV k)
            have e411 : s4 1 1 = ((n + 1 : Nat) : Int) := by rw [hf4 1 1 (by unfold scr; omega) (by omega)]; exact p11
            have zn2 : ∀ _ : Unit, zw (((n + 1 : Nat) : Int) - 1) = (n : Nat) := fun _ => by rw [zw_id (by omega) (by omega)]; omega
            rw [e411, zn2 ()]
            have hfin : ∀ c i, ¬ scr c i → ¬ (c = 0 ∧ i = 9) → ¬ (2 ≤ c ∧ c ≤ 8 ∧ i = (n : Nat)) → (zup s4 1 1 (n : Nat)) c i = s c i := fun c i a b e => by
              rw [zg]
              by_cases e9 : c = 1 ∧ i = 1
              · rw [if_pos e9, e9.1, e9.2]; exact e11.symm
              · rw [if_neg e9, hf4 c i a b, pO c i e9 e]; exact hf c i a b e
            have hz : (zup s4 1 1 (n : Nat)) 0 9 = 0 := by rw [zune _ _ _ (by decide)]; exact h04
            refine ⟨fun z => ?_, fun z => ⟨fun q => ?_, fun q => ?_⟩⟩
            · rw [zk ()]
              refine ih (k + 1) _ _ (by omega) hfin (fun _ => hz) fun q hq => ?_
              by_cases e : q = k
              · subst e; omega
              · exact hno q (by omega)
            · refine model r4 _ (Or.inr ⟨k, hk4, by omega, hno, ?_⟩) hfin hz
              rw [if_neg q]; exact er4
            · refine model (k : Nat) _ (Or.inr ⟨k, hk4, by omega, hno, ?_⟩) hfin hz
              rw [if_pos (Classical.not_not.mp q)]
        exact l 4 0 s1 _ rfl (fun c i a b _ => k1 c i a b) (fun q => absurd q (by decide)) (fun q hq => absurd hq (by omega))
      · have hnn := hH.nn
        refine e208 (by omega) (f208_0 (i132 (by omega) (fun _ => ⟨fun _ => ⟨fun _ => ?_, fun z => absurd z (by rw [h703 s1 k1]; omega)⟩, fun z => absurd (by decide) z⟩) (fun q => absurd (by omega) q)))
        refine i197 (m := 0) (by omega) (by decide) hw1.1 hw1.2.2.2.1 hw1.2.2.1 hw1.2.2.2.2.1 fun r2 sM hr2 hfM => ?_
        have e := hr2.uniq (fun _ _ _ => Iff.rfl) hH
        exact ⟨fun z => absurd z (by omega), fun _ => ⟨rfl, hw.fin hI.1 k1 (Or.inr k2) (fun _ => ⟨k3, k4⟩) hfM⟩⟩
    · exact e208 (by omega) (f208_0 (i132 (by omega) (fun _ => ⟨fun _ => ⟨fun z => absurd (by rw [h703 s (fQ.refl s)]; omega) z, fun _ => ⟨rfl, hI⟩⟩, fun z => absurd (by decide) z⟩) (fun q => absurd (by omega) q)))
  refine e108 (by omega) (f108_0 ⟨fun z3 => good (Or.inl z3), fun z3 => ⟨fun z4 => good (Or.inr z4), fun z4 => ?_⟩⟩)
  exact e208 (by omega) (f208_0 (i132 (by omega) (fun q => absurd (by omega) z4) (fun _ => ⟨fun z => absurd rfl z, fun _ => ⟨rfl, hI⟩⟩)))
