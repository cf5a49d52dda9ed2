/-! questions for the search: both sides alike -/
def fQ (s s1 : Pl) : Prop := ∀ c i, ¬ scr c i → ¬ (c = 0 ∧ i = 9) → s1 c i = s c i
def fM (s s1 : Pl) : Prop := (∀ c, c < 72 → s1 c = s c) ∧ fQ s s1
theorem fQ.refl (s : Pl) : fQ s s := fun _ _ _ _ => rfl
theorem fQ.trans {s s1 s2 : Pl} (h : fQ s s1) (h2 : fQ s1 s2) : fQ s s2 := fun c i a b => by rw [h2 c i a b, h c i a b]
theorem fM.refl (s : Pl) : fM s s := ⟨fun _ _ => rfl, fQ.refl s⟩
theorem fM.trans {s s1 s2 : Pl} (h : fM s s1) (h2 : fM s1 s2) : fM s s2 := ⟨fun c hc => by rw [h2.1 c hc, h.1 c hc], h.2.trans h2.2⟩
theorem fLn.fQ {t : Nat} {s s1 : Pl} (ht : t < 6) (h : fLn t s s1) : fQ s s1 := fun c i a _ => h c i (by unfold scr at a; omega) (by unfold scr at a; omega) (by unfold scr at a; omega) (by unfold scr at a; omega) (by unfold scr at a; omega)
theorem fRe.fQ {s s1 : Pl} (h : fRe s s1) : fQ s s1 := fun c i a _ => h c i (by unfold scr at a; omega) (by unfold scr at a; omega) (by unfold scr at a; omega) (by unfold scr at a; omega) (by unfold scr at a; omega)
theorem kB.fQ {t : Nat} {s s1 : Pl} (ht : t < 6) (h : kB t s s1) : fQ s s1 := fun c i a _ => h c i (by unfold scr at a; omega) (by unfold scr at a; omega) (by unfold scr at a; omega)
theorem fFs.fM {s s1 : Pl} (h : fFs s s1) : fM s s1 := ⟨fun c hc => funext fun i => h c i (by omega) (by omega) (by omega) (by omega) (by omega) (by omega) (by omega) (by omega), fun c i a _ => h c i (by unfold scr at a; omega) (by unfold scr at a; omega) (by unfold scr at a; omega) (by unfold scr at a; omega) (by unfold scr at a; omega) (by unfold scr at a; omega) (by unfold scr at a; omega) (by unfold scr at a; omega)⟩
theorem fRk.fM {s s1 : Pl} (h : fRk s s1) : fM s s1 := ⟨fun c hc => funext fun i => h c i (by omega) (by omega) (by omega) (by omega), fun c i a _ => h c i (by unfold scr at a; omega) (by unfold scr at a; omega) (by unfold scr at a; omega) (by unfold scr at a; omega)⟩
theorem f95.fM {s s1 : Pl} (h : ∀ c i, c ≠ 97 → s1 c i = s c i) : fM s s1 := ⟨fun c hc => funext fun i => h c i (by omega), fun c i a _ => h c i (by unfold scr at a; omega)⟩
theorem kG.fM {s s1 : Pl} (h : kG s s1) : fM s s1 := ⟨fun c hc => funext fun i => h c i (by omega) (by omega), fun c i a _ => h c i (by unfold scr at a; omega) (by unfold scr at a; omega)⟩
theorem fQ.mst {w s s1 : Pl} {t n : Nat} (h : fQ s s1) (v : Mst w t n s) : Mst w t n s1 := cMst (fun c i hm => h c i (by have := mMs_out hm; unfold mMs mX stc at hm; simp at hm; unfold scr; omega) (by unfold mMs mX stc at hm; simp at hm; omega)) v
theorem fQ.cell {s s1 : Pl} (h : fQ s s1) {c : Nat} (hc : ∀ i, ¬ scr c i) (h0 : c ≠ 0) : s1 c = s c := funext fun i => h c i (hc i) (fun q => h0 q.1)
theorem fQ.sW {w s s1 : Pl} (h : fQ s s1) (hw : sW w s) : sW w s1 := fun c hc => by
  have := stc_out hc
  rw [h.cell (scr_stc hc) (by omega)]; exact hw c hc
theorem fQ.mx {s s1 : Pl} {n x : Nat} (h : fQ s s1) (v : mx n x s) : mx n x s1 :=
  ⟨by rw [h 72 2 (by unfold scr; omega) (by decide)]; exact v.1, fun r hr => by rw [h 75 _ (by unfold scr; omega) (by omega)]; exact v.2 r hr⟩
theorem fQ.sv {s s1 : Pl} (h : fQ s s1) : stV s1 = stV s := by
  unfold stV
  rw [h.cell (c := 1) (scr_stc rfl) (by decide), h.cell (c := 2) (scr_stc rfl) (by decide)]
theorem fQ.wk {w s s1 : Pl} {t n x0 : Nat} (h : fQ s s1) (v : Wk w t n x0 s) : Wk w t n x0 s1 := by
  obtain ⟨a1, a2, a3, a4, a5, ⟨a6, a7⟩, a8, a9, a10⟩ := v
  have e1 := h.cell (c := 1) (scr_stc rfl) (by decide)
  have e2 := h.cell (c := 2) (scr_stc rfl) (by decide)
  exact ⟨a1, h.sW a2, a3, h.mst a4, h.mx a5, by rw [e1]; exact ⟨a6, a7⟩, by rw [e1]; exact a8, fun r hr => by rw [e2]; exact a9 r hr, by rw [h.sv]; exact a10⟩
theorem Lrn.c70 {w s s1 : Pl} {t n : Nat} (h : ∀ c, c < 72 → s1 c = s c) (v : Lrn w t n s) : Lrn w t n s1 := by
  unfold Lrn at *
  rw [h 57 (by decide), h 59 (by decide), h 61 (by decide)]
  exact v
theorem SolC.cong {w s s1 : Pl} {t n m x0 Lm : Nat} (h1 : s1 64 4 = s 64 4) (h2 : s1 64 5 = s 64 5) (h3 : s1 66 = s 66) (h4 : s1 67 = s 67) (v : SolC w t n m x0 Lm s) : SolC w t n m x0 Lm s1 := by
  unfold SolC at *
  rw [h1, h2, h3, h4]
  exact v
theorem Wk.fin {w s s1 s2 : Pl} {t n x0 : Nat} (hj : JJ s) (hw : Wk w t n x0 s) (f1 : fQ s s1) (h9 : s1 0 9 = 0 ∨ s1 0 9 = 1) (he : s1 0 9 ≠ 0 → Lrn w t n s1 ∧ SolC w t n 0 x0 400 s1) (f2 : fM s1 s2) : Inv s2 := by
  have e0 : s2 0 9 = s1 0 9 := by rw [f2.1 0 (by decide)]
  refine hw.inv hj (f1.trans f2.2) (by rw [e0]; exact h9) fun q => ?_
  rw [e0] at q
  obtain ⟨l, c⟩ := he q
  exact ⟨l.c70 f2.1, c.cong (by rw [f2.1 64 (by decide)]) (by rw [f2.1 64 (by decide)]) (f2.1 66 (by decide)) (f2.1 67 (by decide))⟩
variable {xs : Nat → Int} {L : Nat} {d : Nat} {s : Pl}
/-- explore -/
theorem i123 {w : Pl} {t n x0 : Nat} {P : Pl → Prop} (hd : 8 ≤ d) (hw : Wk w t n x0 s) (hE : s 0 9 ≠ 0 → Lrn w t n s ∧ SolC w t n 0 x0 400 s) (h9 : s 0 9 = 0 ∨ s 0 9 = 1) (h : ∀ s1 : Pl, fQ s s1 → s1 0 9 = 1 → Lrn w t n s1 → SolC w t n 0 x0 400 s1 → P s1) : Ev xs L T0 106 d 123 [rf 1] s (qv P) := by
  have hk := hw.1
  have hn := hk.1.2
  have ht := hk.2.1.1
  refine e123 (by omega) (f123_0 ⟨fun z => h s (fQ.refl s) (by omega) (hE z).1 (hE z).2, fun z => ?_⟩)
  refine i122 (by omega) ht hw.2.2.2.2.2.1.2 ⟨t, ht, rfl, i34 (by omega) hk hw.2.1 fun s1 k1 k2 => ?_⟩
  have hw1 := (k2.fQ ht).wk hw
  refine i8 (by omega) hn hw1.2.2.2.2.2.1.1 hw1.2.2.2.2.2.2.1 hw1.2.2.2.2.2.2.2.1 hw1.2.2.1 ?_
  refine i54 (m := 0) (Lm := 400) (Q := fun _ => False) (by omega) (by decide) hk hw1.2.1 k1 hw1.2.2.1 (by decide) (fun x => ?_) (fun k s2 hl _ => ?_) (fun s2 _ hs hf => ?_)
  · exact ⟨fun e => absurd e (zand_all (btn_lt64 _ hn)), fun e => e.elim⟩
  · exfalso
    rcases hl with ⟨e, _⟩ | ⟨k2, _, ⟨y, _, q⟩, _⟩
    · omega
    · exact q
  · refine h _ (fun c i a b => ?_) (by rw [zg, if_pos ⟨rfl, rfl⟩]) ?_ ?_
    · rw [zg, if_neg b]
      exact ((k2.fQ ht).trans hf.fQ) c i a b
    · have l := hf.Ln k1
      unfold Lrn at *
      rw [zune _ _ _ (by decide), zune _ _ _ (by decide), zune _ _ _ (by decide)]
      exact l
    · exact hs.cong (by rw [zune _ _ _ (by decide)]) (by rw [zune _ _ _ (by decide)]) (zune _ _ _ (by decide)) (zune _ _ _ (by decide))
/-- searchNow -/
theorem i124 {w : Pl} {t n x0 m : Nat} {P : Int → Pl → Prop} (hd : 8 ≤ d) (hm : m < 3) (hk : wOk w t n) (hw : sW w s) (hx : okx n x0) (h1 : s 1 1 = (n : Nat)) (hb : s 1 0 = (bt x0 : Nat)) (hp : ∀ r : Nat, r < n → s 2 r = (pl x0 r : Nat)) (h : ∀ (r : Int) (s1 : Pl), lst w t n m x0 400 (QT w n (fun _ => true)) r → fQ s s1 → s1 0 9 = 0 → P r s1) : Ev xs L T0 106 d 124 [rf 1, rf (21 + 4 * t + 1), it (m : Nat)] s (qi P) := by
  have hn := hk.1.2
  have ht := hk.2.1.1
  refine e124 (by omega) (f124_0 ht ?_)
  have f0 : fQ s (zup s 0 9 0) := fun c i a b => by rw [zg, if_neg b]
  refine i34 (by omega) hk (f0.sW hw) fun s1 k1 k2 => ?_
  have f1 := f0.trans (k2.fQ ht)
  have e1 := f1.cell (c := 1) (scr_stc rfl) (by decide)
  have e2 := f1.cell (c := 2) (scr_stc rfl) (by decide)
  have z9 : s1 0 9 = 0 := by rw [k2 0 9 (by decide) (by omega) (by decide) (by decide) (fun e => absurd e (by decide)), zg, if_pos ⟨rfl, rfl⟩]
  refine i8 (by omega) hn (by rw [e1]; exact h1) (by rw [e1]; exact hb) (fun r hr => by rw [e2]; exact hp r hr) hx ?_
  refine i40 (by omega) hn (by rw [e1]; exact h1) k1 ?_
  have hQ : ∀ x, zand (awV w n x : Nat) ((btn (fun p => !uA (w 3 p) 3) n : Nat) : Int) = ((btn (fun p => !uA (w 3 p) 3) n : Nat) : Int) ↔ QT w n (fun _ => true) x := fun x => by
    have := QT_need (w := w) hn (fun _ => true) x
    simpa using this
  refine i54 (m := m) (Lm := 400) (Q := QT w n (fun _ => true)) (by omega) hm hk (f1.sW hw) k1 hx (by decide) hQ (fun k s2 hl hf => ?_) (fun s2 hn2 _ hf => ?_)
  · exact h _ s2 hl (f1.trans hf.fQ) (by rw [hf 0 9 (by decide) (by decide) (by decide) (by decide) (by decide)]; exact z9)
  · exact h _ s2 (Or.inl ⟨rfl, hn2⟩) (f1.trans hf.fQ) (by rw [hf 0 9 (by decide) (by decide) (by decide) (by decide) (by decide)]; exact z9)
/-- allBy -/
theorem i197 {w : Pl} {t n x0 m : Nat} {P : Int → Pl → Prop} (hd : 8 ≤ d) (hm : m < 3) (hk : wOk w t n) (hs : Mst w t n s) (hx0 : okx n x0) (hx : mx n x0 s) (h : ∀ (r : Int) (s1 : Pl), lst w t n m x0 400 (QT w n (fun _ => true)) r → fM s s1 → P r s1) : Ev xs L T0 106 d 197 [rf 73, it (m : Nat)] s (qi P) := by
  have hn := hk.1.2
  refine e197 (by omega) (f197_0 (i195 (by omega) hm hk hs hx0 hx fun s1 k1 k2 => ?_))
  refine i196 (S := fun _ => true) (by omega) hk (k2.fM.2.mst hs) k1 ?_ fun r s2 hr hf => h r s2 hr (k2.fM.trans (f95.fM hf))
  rw [all_bits n hn, show (0 : Int) = ((btn (fun _ => false) n : Nat) : Int) from by
    have := (btn_zero (f := fun _ => false) (n := n)).mpr (fun _ _ => rfl)
    rw [this]; rfl, btn_an hn]
  rfl
theorem Inv.h9 {s : Pl} (h : Inv s) : s 0 9 = 0 ∨ s 0 9 = 1 := h.1.2.2.1.2.2.2
/-- all -/
theorem J101 {v : Int} (hd : 10 ≤ d) (hI : Inv s) : Ev xs L T0 106 d 101 [rf 1, it v] s (qi fun r s1 => Ev xs L T0 106 d 198 [rf 73, it v] s1 (qi fun r2 s2 => r2 = r ∧ Inv s2)) := by
  obtain ⟨w, t, n, x0, hw, hE⟩ := hI.wk
  have hn := hw.1.1.2
  have ht := hw.1.2.1.1
  have bad : ¬ (0 ≤ v ∧ v ≤ 2) → Ev xs L T0 106 d 198 [rf 73, it v] s (qi fun r2 s2 => r2 = -2 ∧ Inv s2) := fun hb =>
    e198 (by omega) (f198_0 (i132 (by omega) (fun q => absurd q hb) (fun _ => ⟨fun _ => ⟨rfl, hI⟩, fun z => absurd rfl z⟩)))
  have good : ∀ (m : Nat) (r : Int) (s1 : Pl), m < 3 → v = (m : Nat) → lst w t n m x0 400 (QT w n (fun _ => true)) r → fQ s s1 → (s1 0 9 = 0 ∨ s1 0 9 = 1) → (s1 0 9 ≠ 0 → Lrn w t n s1 ∧ SolC w t n 0 x0 400 s1) → Ev xs L T0 106 d 198 [rf 73, it v] s1 (qi fun r2 s2 => r2 = r ∧ Inv s2) := by
    intro m r s1 hm hv hr hf h9 he
    have hw1 := hf.wk hw
    refine e198 (by omega) (f198_0 (i132 (by omega) (fun _ => ⟨fun z => absurd z (by decide), fun _ => ?_⟩) (fun q => absurd (by omega) q)))
    rw [hv]
    exact i197 (by omega) hm hw1.1 hw1.2.2.2.1 hw1.2.2.1 hw1.2.2.2.2.1 fun r2 s2 hr2 hf2 => ⟨hr2.uniq (fun _ _ _ => Iff.rfl) hr, hw.fin hI.1 hf h9 he hf2⟩
  refine e101 (by omega) (f101_0 ⟨fun z => bad (by omega), fun z1 => ⟨fun z2 => ⟨fun z3 => ?_, fun z3 => ?_⟩, fun z => bad (by omega)⟩⟩)
  · refine i123 (by omega) hw hE hI.h9 fun s1 k1 k2 k3 k4 => i61 (by omega) hn (k1.wk hw).2.2.2.2.2.1.1 k3 k4 fun r hr => ?_
    exact good 0 r s1 (by decide) (by omega) hr k1 (Or.inr k2) fun _ => ⟨k3, k4⟩
  · obtain ⟨m, hm⟩ : ∃ m : Nat, v = (m : Nat) := ⟨v.toNat, by omega⟩
    refine i122 (by omega) ht hw.2.2.2.2.2.1.2 ⟨t, ht, rfl, ?_⟩
    rw [hm]
    refine i124 (by omega) (by omega) hw.1 hw.2.1 hw.2.2.1 hw.2.2.2.2.2.1.1 hw.2.2.2.2.2.2.1 hw.2.2.2.2.2.2.2.1 fun r s1 hr hf h0 => ?_
    rw [← hm]
    exact good m r s1 (by omega) hm hr hf (Or.inl h0) fun q => absurd h0 q
theorem SolM.cong {w s s1 : Pl} {t n m x0 : Nat} (h1 : s1 72 37 = s 72 37) (h2 : s1 93 = s 93) (h3 : s1 94 = s 94) (v : SolM w t n m x0 s) : SolM w t n m x0 s1 := by
  unfold SolM at *
  rw [h1, h2, h3]
  exact v
theorem kept9.fM {s s1 : Pl} (h : kept9 s s1) : fM s s1 := ⟨fun c hc => funext fun i => h.2.2 c i (by omega) (by omega), fun c i a _ => h.2.2 c i (by unfold scr at a; omega) (by unfold scr at a; omega)⟩
theorem kept9.sol {w s s1 : Pl} {t n m x0 : Nat} (h : kept9 s s1) (v : SolM w t n m x0 s) : SolM w t n m x0 s1 :=
  v.cong (h.2.2 72 37 (by decide) (by decide)) (funext fun i => h.2.2 93 i (by decide) (fun e => absurd e (by decide))) (funext fun i => h.2.2 94 i (by decide) (fun e => absurd e (by decide)))
/-- soonest -/
theorem J102 {v : Int} (hd : 10 ≤ d) (hI : Inv s) : Ev xs L T0 106 d 102 [rf 1, it v] s (qi fun r s1 => Ev xs L T0 106 d 199 [rf 73, it v] s1 (qi fun r2 s2 => r2 = r ∧ Inv s2)) := by
  obtain ⟨w, t, n, x0, hw, hE⟩ := hI.wk
  have hn := hw.1.1.2
  have h11 := hw.2.2.2.2.2.1.1
  have h703 : ∀ s1, fQ s s1 → s1 72 3 = (n : Nat) := fun s1 h => (h.wk hw).2.2.2.1.2.2.1.2
  refine e102 (by omega) (f102_0 (i2 (by omega) (by omega) (fun hp => ⟨fun _ => ?_, fun z => absurd (by decide) z⟩) (fun hp => ⟨fun z => absurd rfl z, fun _ => ?_⟩)))
  · obtain ⟨p, hp2⟩ : ∃ p : Nat, v = (p : Nat) := ⟨v.toNat, by omega⟩
    subst hp2
    have hpn : p < n := by omega
    refine i123 (by omega) hw hE hI.h9 fun s1 k1 k2 k3 k4 => ?_
    have hw1 := k1.wk hw
    refine i60 (Q := fun y => ((pl y p : Nat) : Int) = w 4 p) (by omega) hn k4 (fun x => ?_) fun r hr => ?_
    · have e : zshl 1 (p : Nat) = ((btn (fun q => decide (q = p)) n : Nat) : Int) := by
        rw [zshl_bit p (by omega)]
        congr 1
        refine btn_eq hn ?_ fun q hq => ?_
        · have : 2 ^ p < 2 ^ 6 := Nat.pow_lt_pow_right (by decide) (by omega)
          omega
        · rw [Nat.testBit_two_pow]
          by_cases e : p = q
          · subst e; simp [hpn]
          · have : ¬ q = p := fun z => e z.symm
            simp [e, this]
      rw [e, aw_sub hn]
      constructor
      · intro g; exact g p hpn (by simp)
      · intro g q _ hq
        have : q = p := by simpa using hq
        rw [this]; exact g
    · refine e199 (by omega) (f199_0 (i135 (by omega) (by rw [h703 s1 k1]; omega) (fun _ => ⟨fun _ => ?_, fun z => absurd (by decide) z⟩) (fun z => absurd (by rw [h703 s1 k1]; omega) z)))
      refine i195 (m := 0) (by omega) (by decide) hw1.1 hw1.2.2.2.1 hw1.2.2.1 hw1.2.2.2.2.1 fun s2 l1 l2 => i184 (by omega) fun s3 l3 => ?_
      refine l199 (by omega) hw1.1 (l3.fM.2.mst (l2.fM.2.mst hw1.2.2.2.1)) hpn (l3.sol l1) l3 fun r2 s4 hr2 hf => ⟨hr2.uniq (fun _ _ _ => Iff.rfl) hr, hw.fin hI.1 k1 (Or.inr k2) (fun _ => ⟨k3, k4⟩) (l2.fM.trans hf.fM)⟩
  · exact e199 (by omega) (f199_0 (i135 (by omega) (by rw [h703 s (fQ.refl s)]; omega) (fun q => absurd (by rw [h703 s (fQ.refl s)] at q; omega) hp) (fun _ => ⟨fun z => absurd rfl z, fun _ => ⟨rfl, hI⟩⟩)))
