/-! asks, may, alone -/
theorem fLk.sol {w s s1 : Pl} {t n m x0 Lm : Nat} (h : fLk s s1) (v : SolC w t n m x0 Lm s) : SolC w t n m x0 Lm s1 :=
  v.cong (h 64 4 (by decide)) (h 64 5 (by decide)) (funext fun i => h 66 i (fun e => absurd e (by decide))) (funext fun i => h 67 i (fun e => absurd e (by decide)))
theorem kL.fQ {t : Nat} {s s1 : Pl} (ht : t < 6) (h : kL t s s1) : fQ s s1 := h.fLn.fQ ht
theorem kL.Ln {w s s1 : Pl} {t n : Nat} (ht : t < 6) (h : kL t s s1) (v : Lrn w t n s) : Lrn w t n s1 := by
  unfold Lrn at *
  rw [show s1 57 = s 57 from funext fun i => h 57 i (by decide) (by omega), show s1 59 = s 59 from funext fun i => h 59 i (by decide) (by omega), show s1 61 = s 61 from funext fun i => h 61 i (by decide) (by omega)]
  exact v
/-- a class's plane in a question that searches nothing -/
def LQ (w : Pl) (t n x0 : Nat) (s s1 : Pl) : Prop := fQ s s1 ∧ Lrn w t n s1 ∧ s1 0 9 = s 0 9 ∧ (s 0 9 ≠ 0 → SolC w t n 0 x0 400 s1)
theorem LQ.fin {w s s1 s2 : Pl} {t n x0 : Nat} (h : LQ w t n x0 s s1) (hj : Inv s) (hw : Wk w t n x0 s) (f2 : fM s1 s2) : Inv s2 :=
  hw.fin hj.1 h.1 (by rw [h.2.2.1]; exact hj.h9) (fun q => ⟨h.2.1, h.2.2.2 (by rw [← h.2.2.1]; exact q)⟩) f2
theorem LQ.kL {w s s1 s2 : Pl} {t n x0 : Nat} (ht : t < 6) (h : LQ w t n x0 s s1) (k : kL t s1 s2) : LQ w t n x0 s s2 :=
  ⟨h.1.trans (k.fQ ht), k.Ln ht h.2.1, by rw [k 0 9 (by decide) (by omega)]; exact h.2.2.1, fun q => k.fLn.sol ht (h.2.2.2 q)⟩
theorem LQ.fLk {w s s1 s2 : Pl} {t n x0 : Nat} (h : LQ w t n x0 s s1) (k : fLk s1 s2) : LQ w t n x0 s s2 :=
  ⟨h.1.trans k.fQ, k.Ln h.2.1, by rw [k 0 9 (by decide)]; exact h.2.2.1, fun q => k.sol (h.2.2.2 q)⟩
variable {xs : Nat → Int} {L : Nat} {d : Nat} {s : Pl}
/-- lawNow, learn -/
theorem i34q {w : Pl} {t n x0 : Nat} {P : Pl → Prop} (hd : 6 ≤ d) (hw : Wk w t n x0 s) (hE : s 0 9 ≠ 0 → Lrn w t n s ∧ SolC w t n 0 x0 400 s) (h : ∀ s1, LQ w t n x0 s s1 → P s1) : Ev xs L T0 106 d 34 [rf 58, rf (21 + 4 * t + 1)] s (qv P) := by
  have ht := hw.1.2.1.1
  exact i34 hd hw.1 hw.2.1 fun s1 k1 k2 => h s1 ⟨k2.fQ ht, k1, k2 0 9 (by decide) (by omega) (by decide) (by decide) (fun e => absurd e (by decide)), fun q => k2.sol ht (hE q).2⟩
/-- may -/
theorem J94 {p q : Int} (hd : 8 ≤ d) (hI : Inv s) : Ev xs L T0 106 d 94 [rf 1, it p, it q] s (qi fun r s1 => Ev xs L T0 106 d 178 [rf 73, it p, it q] s1 (qi fun r2 s2 => r2 = r ∧ Inv s2)) := by
  obtain ⟨w, t, n, x0, hw, hE⟩ := hI.wk
  have hn := hw.1.1.2
  have ht := hw.1.2.1.1
  have e11 := hw.2.2.2.2.2.1.1
  have e703 : s 72 3 = (n : Nat) := hw.2.2.2.1.2.2.1.2
  by_cases hp : 0 ≤ p ∧ p < (n : Nat)
  · by_cases hq : 0 ≤ q ∧ q < (n : Nat)
    · obtain ⟨a, rfl⟩ : ∃ a : Nat, p = (a : Nat) := ⟨p.toNat, by omega⟩
      obtain ⟨b, rfl⟩ : ∃ a : Nat, q = (a : Nat) := ⟨q.toNat, by omega⟩
      refine e94 (by omega) (f94_0 (i2 (by omega) (by omega) (fun _ => ⟨fun z => absurd z (by decide), fun _ => i2 (by omega) (by omega) (fun _ => ⟨fun _ => ?_, fun z => absurd (by decide) z⟩) (fun z => absurd (by omega) z)⟩) (fun z => absurd (by omega) z)))
      refine i122 (by omega) ht hw.2.2.2.2.2.1.2 ⟨t, ht, rfl, i34q (by omega) hw hE fun s1 h1 => ?_⟩
      have hw1 := h1.1.wk hw
      refine i8 (by omega) hn hw1.2.2.2.2.2.1.1 hw1.2.2.2.2.2.2.1 hw1.2.2.2.2.2.2.2.1 hw1.2.2.1 ?_
      refine i42 (by omega) hw1.1.1.1 hn hw1.2.2.1.1 hw1.2.1 fun s2 m1 m2 => ?_
      have h2 := h1.fLk m2
      have hw2 := h2.1.wk hw
      have model : ∀ r : Int, (swp w t n x0 a b → r = 1) → (¬ swp w t n x0 a b → r = 0) → Ev xs L T0 106 d 178 [rf 73, it (a : Nat), it (b : Nat)] s2 (qi fun r2 s3 => r2 = r ∧ Inv s3) := by
        intro r r1 r0
        have e2703 : s2 72 3 = (n : Nat) := hw2.2.2.2.1.2.2.1.2
        refine e178 (by omega) (f178_0 (i135 (by omega) (by omega) (fun _ => ⟨fun z => absurd z (by decide), fun _ => i135 (by omega) (by omega) (fun _ => ⟨fun _ => ?_, fun z => absurd (by decide) z⟩) (fun z => absurd (by omega) z)⟩) (fun z => absurd (by omega) z)))
        exact i176 (by omega) hw2.1 hw2.2.2.2.1 hw2.2.2.2.2.1 (by omega) (by omega) (fun g s3 hs3 => ⟨fun z => absurd z (by decide), fun _ => ⟨(r1 g).symm, h2.fin hI hw hs3.fM⟩⟩) (fun g s3 hs3 => ⟨fun _ => ⟨(r0 g).symm, h2.fin hI hw hs3.fM⟩, fun z => absurd rfl z⟩)
      exact i47 (by omega) hw2.1 hw2.2.1 h2.2.1 m1 (by omega) (by omega) (fun g => ⟨fun z => absurd z (by decide), fun _ => model 1 (fun _ => rfl) (fun q => absurd g q)⟩) (fun g => ⟨fun _ => model 0 (fun q => absurd q g) (fun _ => rfl), fun z => absurd rfl z⟩)
    · exact e94 (by omega) (f94_0 (i2 (by omega) (by omega) (fun _ => ⟨fun z => absurd z (by decide), fun _ => i2 (by omega) (by omega) (fun z => absurd (by omega) hq) (fun _ => ⟨fun z => absurd rfl z, fun _ => e178 (by omega) (f178_0 (i135 (by omega) (by omega) (fun _ => ⟨fun z => absurd z (by decide), fun _ => i135 (by omega) (by omega) (fun z => absurd (by omega) hq) (fun _ => ⟨fun z => absurd rfl z, fun _ => f178_16 ⟨rfl, hI⟩⟩)⟩) (fun z => absurd (by omega) z)))⟩)⟩) (fun z => absurd (by omega) z)))
  · exact e94 (by omega) (f94_0 (i2 (by omega) (by omega) (fun z => absurd (by omega) hp) (fun _ => ⟨fun _ => e178 (by omega) (f178_0 (i135 (by omega) (by omega) (fun z => absurd (by omega) hp) (fun _ => ⟨fun _ => f178_16 ⟨rfl, hI⟩, fun z => absurd rfl z⟩))), fun z => absurd rfl z⟩)))
/-- alone -/
theorem J95 (hd : 8 ≤ d) (hI : Inv s) : Ev xs L T0 106 d 95 [rf 1] s (qi fun r s1 => Ev xs L T0 106 d 179 [rf 73] s1 (qi fun r2 s2 => r2 = r ∧ Inv s2)) := by
  obtain ⟨w, t, n, x0, hw, hE⟩ := hI.wk
  have hn := hw.1.1.2
  have ht := hw.1.2.1.1
  obtain ⟨A, hA⟩ : ∃ A : Nat → Bool, ∀ l, A l = true ↔ ¬ standV w n (fun r => decide (pl x0 r = l)) := ⟨fun l => @decide _ (Classical.propDecidable (¬ standV w n (fun r => decide (pl x0 r = l)))), fun l => @decide_eq_true_iff _ (Classical.propDecidable _)⟩
  refine e95 (by omega) (f95_0 (i122 (by omega) ht hw.2.2.2.2.2.1.2 ⟨t, ht, rfl, i34q (by omega) hw hE fun s1 h1 => ?_⟩))
  have hw1 := h1.1.wk hw
  have model : Ev xs L T0 106 d 179 [rf 73] s1 (qi fun r2 s2 => r2 = ((btn A 4 : Nat) : Int) ∧ Inv s2) := by
    have l : ∀ (j k : Nat) (v1 v2 : Int), k + j = 4 → v2 = (k : Nat) → v1 = ((btn A k : Nat) : Int) → Fr xs L T0 106 (d - 1) 179 4 [some (rf 73), some (it v1), some (it v2)] [] s1 (qi fun r2 s2 => r2 = ((btn A 4 : Nat) : Int) ∧ Inv s2) := by
      intro j
      induction j with
      | zero =>
        intro k v1 v2 hk h2 h3
        have e : k = 4 := by omega
        subst e
        exact f179_4 ⟨fun _ => ⟨h3, h1.fin hI hw (fM.refl s1)⟩, fun z => absurd (by omega) z⟩
      | succ j ih =>
        intro k v1 v2 hk h2 h3
        subst h2
        have zk : ∀ _ : Unit, zw ((k : Nat) + 1) = ((k + 1 : Nat) : Int) := fun _ => by rw [zw_id (by omega) (by omega)]; omega
        refine f179_4 ⟨fun z => absurd z (by omega), fun _ => i174 (by omega) hn hw1.2.2.2.1 hw1.2.2.2.2.1 (fun g => ⟨fun _ => f179_23 ?_, fun z => absurd (by decide) z⟩) (fun g => ⟨fun z => absurd rfl z, fun _ => f179_23 ?_⟩)⟩
        · rw [zk ()]
          refine ih (k + 1) _ _ (by omega) rfl ?_
          rw [h3]; simp only [btn]; rw [if_neg (fun q => (hA k).mp q g)]; rfl
        · rw [zk ()]
          refine ih (k + 1) _ _ (by omega) rfl ?_
          rw [h3, zor_bitL k (by omega) _ (btn_lt _ k)]; simp only [btn]; rw [if_pos ((hA k).mpr g)]
    exact e179 (by omega) (f179_0 (l 4 0 _ _ rfl rfl rfl))
  have l : ∀ (j k : Nat) (v1 v2 : Int), k + j = 4 → v2 = (k : Nat) → v1 = ((btn A k : Nat) : Int) → Fr xs L T0 106 (d - 1) 95 15 [some (rf 1), some (it v1), some (it v2)] [] s1 (qi fun r s1 => Ev xs L T0 106 d 179 [rf 73] s1 (qi fun r2 s2 => r2 = r ∧ Inv s2)) := by
    intro j
    induction j with
    | zero =>
      intro k v1 v2 hk h2 h3
      have e : k = 4 := by omega
      subst e
      exact f95_15 ⟨fun _ => by rw [h3]; exact model, fun z => absurd (by omega) z⟩
    | succ j ih =>
      intro k v1 v2 hk h2 h3
      subst h2
      have zk : ∀ _ : Unit, zw ((k : Nat) + 1) = ((k + 1 : Nat) : Int) := fun _ => by rw [zw_id (by omega) (by omega)]; omega
      refine f95_15 ⟨fun z => absurd z (by omega), fun _ => (m6 n hw1.2.2.2.2.2.1.1 hn (by omega)).i ?_⟩
      rintro r2 s3 ⟨rfl, rfl⟩
      have eb : btn (fun p => decide (s3 2 p = (k : Nat))) n = btn (fun r => decide (pl x0 r = k)) n := btn_cong fun r hr => by rw [hw1.2.2.2.2.2.2.2.1 r hr, decide_eq_decide]; omega
      rw [eb]
      refine i48 (by omega) hn h1.2.1 (fun g => ⟨fun _ => f95_44 ?_, fun z => absurd (by decide) z⟩) (fun g => ⟨fun z => absurd rfl z, fun _ => f95_44 ?_⟩)
      · rw [zk ()]
        refine ih (k + 1) _ _ (by omega) rfl ?_
        rw [h3]; simp only [btn]; rw [if_neg (fun q => (hA k).mp q g)]; rfl
      · rw [zk ()]
        refine ih (k + 1) _ _ (by omega) rfl ?_
        rw [h3, zor_bitL k (by omega) _ (btn_lt _ k)]; simp only [btn]; rw [if_pos ((hA k).mpr g)]
  exact l 4 0 _ _ rfl rfl rfl
theorem i164w {w : Pl} {t n a b l : Nat} {P : Int → Pl → Prop} (hd : 3 ≤ d) (hk : wOk w t n) (hm : Mst w t n s) (h : ∀ s2 : Pl, kG s s2 → P (if mayV w t a b l = true then 1 else 0) s2) : Ev xs L T0 106 d 164 [rf 73, it (a : Nat), it (b : Nat), it (l : Nat)] s (qi P) := by
  have ht := hk.2.1.1
  refine i164 ht hd hm.2.2.1.1 hm.2.1.1 hm.2.1.2.1 hm.2.1.2.2 fun s2 hs2 => ?_
  have h9 := h s2 hs2
  rw [hm.1 _ (by omega) (stc22 t ht).1, hm.1 _ (by omega) (stc22 t ht).2]
  unfold mayV at h9
  by_cases e : lawV (w (22 + 4 * t)) (w (23 + 4 * t)) (nm6 a b l 0 0 0) 0 = 0
  · rw [if_pos e]; rw [if_neg (by simp [e])] at h9; exact h9
  · rw [if_neg e]; rw [if_pos (by simp [e])] at h9; exact h9
/-- asks -/
theorem J89 {v1 v2 v3 v4 : Int} (hd : 8 ≤ d) (hI : Inv s) : Ev xs L T0 106 d 89 [rf 1, it v1, it v2, it v3, it v4] s (qi fun r s1 => Ev xs L T0 106 d 167 [rf 73, it v1, it v2, it v3, it v4] s1 (qi fun r2 s2 => r2 = r ∧ Inv s2)) := by
  obtain ⟨w, t, n, x0, hw, hE⟩ := hI.wk
  have hn := hw.1.1.2
  have ht := hw.1.2.1.1
  refine e89 (by omega) (f89_0 (i122 (by omega) ht hw.2.2.2.2.2.1.2 ⟨t, ht, rfl, i34q (by omega) hw hE fun s1 h1 => ?_⟩))
  have hw1 := h1.1.wk hw
  have e11 : s1 1 1 = (n : Nat) := hw1.2.2.2.2.2.1.1
  have e703 : s1 72 3 = (n : Nat) := hw1.2.2.2.1.2.2.1.2
  have hfin : ∀ s2, kL t s1 s2 → ∀ s3, fM s2 s3 → Inv s3 := fun s2 k s3 f => (h1.kL ht k).fin hI hw f
  have bad : (v1 < 0 ∨ 2 < v1) ∨ (v1 = 0 ∧ ¬ ((0 ≤ v2 ∧ v2 < (n : Nat)) ∧ (0 ≤ v3 ∧ v3 < (n : Nat)) ∧ 0 ≤ v4 ∧ v4 < 4)) ∨ (v1 = 1 ∧ ¬ ((0 ≤ v2 ∧ v2 < 4) ∧ (0 ≤ v3 ∧ v3 < 4) ∧ v2 ≠ v3)) ∨ (v1 = 2 ∧ ¬ ((0 ≤ v2 ∧ v2 < (n : Nat)) ∧ 0 ≤ v3 ∧ v3 ≤ 400)) → Ev xs L T0 106 d 167 [rf 73, it v1, it v2, it v3, it v4] s1 (qi fun r2 s2 => r2 = -2 ∧ Inv s2) := by
    intro hb
    have hI1 : Inv s1 := hfin s1 (kL.refl t s1) s1 (fM.refl s1)
    have h3 : 0 ≤ s1 72 3 ∧ s1 72 3 ≤ 6 := by omega
    refine e167 (by omega) (f167_0 ⟨fun _ => ⟨rfl, hI1⟩, fun z => ?_, fun z => ?_, fun z => ?_⟩)
    · refine i135 (by omega) h3 (fun q1 => ⟨fun y => absurd y (by decide), fun _ => i135 (by omega) h3 (fun q2 => ⟨fun y => absurd y (by decide), fun _ => i134 (by omega) (fun q3 => absurd (by omega) (show ¬ False from id)) (fun _ => ⟨fun _ => ⟨rfl, hI1⟩, fun y => absurd rfl y⟩)⟩) (fun _ => ⟨fun _ => ⟨rfl, hI1⟩, fun y => absurd rfl y⟩)⟩) (fun _ => ⟨fun _ => ⟨rfl, hI1⟩, fun y => absurd rfl y⟩)
    · refine i134 (by omega) (fun q1 => ⟨fun y => absurd y (by decide), fun _ => i134 (by omega) (fun q2 => ⟨fun y => absurd y (by decide), fun _ => ⟨fun _ => ⟨rfl, hI1⟩, fun y => absurd (by omega) (show ¬ False from id)⟩⟩) (fun _ => ⟨fun _ => ⟨rfl, hI1⟩, fun y => absurd rfl y⟩)⟩) (fun _ => ⟨fun _ => ⟨rfl, hI1⟩, fun y => absurd rfl y⟩)
    · refine i135 (by omega) h3 (fun q1 => ⟨fun y => absurd y (by decide), fun _ => i132 (by omega) (fun q2 => absurd (by omega) (show ¬ False from id)) (fun _ => ⟨fun _ => ⟨rfl, hI1⟩, fun y => absurd rfl y⟩)⟩) (fun _ => ⟨fun _ => ⟨rfl, hI1⟩, fun y => absurd rfl y⟩)
  have q99 : (v1 = 2 ∨ (v1 < 0 ∨ 2 < v1) ∨ (v1 = 0 ∧ ¬ ((0 ≤ v2 ∧ v2 < (n : Nat)) ∧ (0 ≤ v3 ∧ v3 < (n : Nat)) ∧ 0 ≤ v4 ∧ v4 < 4)) ∨ (v1 = 1 ∧ ¬ ((0 ≤ v2 ∧ v2 < 4) ∧ (0 ≤ v3 ∧ v3 < 4) ∧ v2 ≠ v3))) → Fr xs L T0 106 (d - 1) 89 99 [some (rf 1), some (it v1), some (it v2), some (it v3), some (it v4)] [] s1 (qi fun r s1 => Ev xs L T0 106 d 167 [rf 73, it v1, it v2, it v3, it v4] s1 (qi fun r2 s2 => r2 = r ∧ Inv s2)) := by
    intro hc
    refine f89_99 ⟨fun z => bad (by omega), fun z => i2 (by omega) (by omega) (fun q1 => ⟨fun y => absurd y (by decide), fun _ => ⟨fun z2 => bad (by omega), fun z2 => ⟨fun z3 => bad (by omega), fun z3 => ?_⟩⟩⟩) (fun q1 => ⟨fun _ => bad (by omega), fun y => absurd rfl y⟩)⟩
    obtain ⟨a, rfl⟩ : ∃ a : Nat, v2 = (a : Nat) := ⟨v2.toNat, by omega⟩
    refine i38w (by omega) hw1.1 hw1.2.1 (by omega) h1.2.1.1 fun s2 hs2 => ?_
    have h2 := h1.kL ht hs2
    have hw2 := h2.1.wk hw
    have e2703 : s2 72 3 = (n : Nat) := hw2.2.2.2.1.2.2.1.2
    refine e167 (by omega) (f167_0 ⟨fun y => absurd y (by omega), fun y => absurd y (by omega), fun y => absurd y (by omega), fun _ => i135 (by omega) (by omega) (fun _ => ⟨fun y => absurd y (by decide), fun _ => i132 (by omega) (fun _ => ⟨fun y => absurd y (by decide), fun _ => ?_⟩) (fun y => absurd (by omega) y)⟩) (fun y => absurd (by omega) y)⟩)
    exact i166w (by omega) hw2.1 hw2.2.2.2.1 (by omega) fun s3 hs3 => ⟨rfl, h2.fin hI hw hs3.fM⟩
  have q65 : (v1 ≠ 0 ∨ ¬ ((0 ≤ v2 ∧ v2 < (n : Nat)) ∧ (0 ≤ v3 ∧ v3 < (n : Nat)) ∧ 0 ≤ v4 ∧ v4 < 4)) → Fr xs L T0 106 (d - 1) 89 65 [some (rf 1), some (it v1), some (it v2), some (it v3), some (it v4)] [] s1 (qi fun r s1 => Ev xs L T0 106 d 167 [rf 73, it v1, it v2, it v3, it v4] s1 (qi fun r2 s2 => r2 = r ∧ Inv s2)) := by
    intro hc
    refine f89_65 ⟨fun z => q99 (by omega), fun z => i126 (by omega) (fun q1 => ⟨fun y => absurd y (by decide), fun _ => i126 (by omega) (fun q2 => ⟨fun y => absurd y (by decide), fun _ => ⟨fun z2 => q99 (by omega), fun z2 => ?_⟩⟩) (fun q2 => ⟨fun _ => q99 (by omega), fun y => absurd rfl y⟩)⟩) (fun q1 => ⟨fun _ => q99 (by omega), fun y => absurd rfl y⟩)⟩
    obtain ⟨a, rfl⟩ : ∃ a : Nat, v2 = (a : Nat) := ⟨v2.toNat, by omega⟩
    obtain ⟨b, rfl⟩ : ∃ a : Nat, v3 = (a : Nat) := ⟨v3.toNat, by omega⟩
    refine i37w (by omega) hw1.1 hw1.2.1 (by omega) (by omega) h1.2.1.1 fun s2 hs2 => ?_
    have h2 := h1.kL ht hs2
    have hw2 := h2.1.wk hw
    refine e167 (by omega) (f167_0 ⟨fun y => absurd y (by omega), fun y => absurd y (by omega), fun _ => i134 (by omega) (fun _ => ⟨fun y => absurd y (by decide), fun _ => i134 (by omega) (fun _ => ⟨fun y => absurd y (by decide), fun _ => ⟨fun y => absurd y z2, fun _ => ?_⟩⟩) (fun y => absurd (by omega) y)⟩) (fun y => absurd (by omega) y), fun y => absurd y (by omega)⟩)
    exact i165w (by omega) hw2.1 hw2.2.2.2.1 (by omega) (by omega) fun s3 hs3 => ⟨rfl, h2.fin hI hw hs3.fM⟩
  refine ⟨fun z => q65 (Or.inl z), fun z => ?_⟩
  have z0 : v1 = 0 := Classical.not_not.mp z
  refine i2 (by omega) (by omega) (fun q1 => ⟨fun y => absurd y (by decide), fun _ => i2 (by omega) (by omega) (fun q2 => ⟨fun y => absurd y (by decide), fun _ => i126 (by omega) (fun q3 => ⟨fun y => absurd y (by decide), fun _ => ?_⟩) (fun q3 => ⟨fun _ => q65 (Or.inr (by omega)), fun y => absurd rfl y⟩)⟩) (fun q2 => ⟨fun _ => q65 (Or.inr (by omega)), fun y => absurd rfl y⟩)⟩) (fun q1 => ⟨fun _ => q65 (Or.inr (by omega)), fun y => absurd rfl y⟩)
  obtain ⟨a, rfl⟩ : ∃ a : Nat, v2 = (a : Nat) := ⟨v2.toNat, by omega⟩
  obtain ⟨b, rfl⟩ : ∃ a : Nat, v3 = (a : Nat) := ⟨v3.toNat, by omega⟩
  obtain ⟨l, rfl⟩ : ∃ a : Nat, v4 = (a : Nat) := ⟨v4.toNat, by omega⟩
  refine i36w (by omega) hw1.1 hw1.2.1 h1.2.1.1 fun s2 hs2 => ?_
  have h2 := h1.kL ht hs2
  have hw2 := h2.1.wk hw
  have e2703 : s2 72 3 = (n : Nat) := hw2.2.2.2.1.2.2.1.2
  have model : ∀ r : Int, r = (if mayV w t a b l = true then 1 else 0) → Ev xs L T0 106 d 167 [rf 73, it v1, it (a : Nat), it (b : Nat), it (l : Nat)] s2 (qi fun r2 s2 => r2 = r ∧ Inv s2) := by
    intro r hr
    refine e167 (by omega) (f167_0 ⟨fun y => absurd y (by omega), fun _ => i135 (by omega) (by omega) (fun _ => ⟨fun y => absurd y (by decide), fun _ => i135 (by omega) (by omega) (fun _ => ⟨fun y => absurd y (by decide), fun _ => i134 (by omega) (fun _ => ⟨fun y => absurd y (by decide), fun _ => ?_⟩) (fun y => absurd q3 y)⟩) (fun y => absurd (by omega) y)⟩) (fun y => absurd (by omega) y), fun y => absurd y (by omega), fun y => absurd y (by omega)⟩)
    refine i164w (by omega) hw2.1 hw2.2.2.2.1 fun s3 hs3 => ?_
    have hInv := h2.fin hI hw hs3.fM
    by_cases g : mayV w t a b l = true
    · rw [if_pos g] at hr ⊢
      exact ⟨fun y => absurd y (by decide), fun _ => ⟨hr.symm, hInv⟩⟩
    · rw [if_neg g] at hr ⊢
      exact ⟨fun _ => ⟨hr.symm, hInv⟩, fun y => absurd rfl y⟩
  by_cases g : mayV w t a b l = true
  · rw [if_pos g]
    exact ⟨fun y => absurd y (by decide), fun _ => model 1 (by rw [if_pos g])⟩
  · rw [if_neg g]
    exact ⟨fun _ => model 0 (by rw [if_neg g]), fun y => absurd rfl y⟩
