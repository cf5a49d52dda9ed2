/-! join, first -/
variable {xs : Nat → Int} {L : Nat} {d : Nat} {s : Pl}
def jn9 (w : Pl) (a b : Nat) (v : Int) : Pl := zup (zup w 9 (4 * (a : Nat) + (b : Nat)) v) 9 (4 * (b : Nat) + (a : Nat)) v
theorem jn9_ne (w : Pl) (a b : Nat) (v : Int) {c : Nat} (hc : c ≠ 9) : jn9 w a b v c = w c := by
  unfold jn9
  rw [zune _ _ _ hc, zune _ _ _ hc]
theorem jn9_at (w : Pl) (a b : Nat) (v i : Int) : jn9 w a b v 9 i = if i = 4 * (a : Nat) + (b : Nat) ∨ i = 4 * (b : Nat) + (a : Nat) then v else w 9 i := by
  unfold jn9
  rw [zg, zg]
  by_cases e1 : i = 4 * (b : Nat) + (a : Nat)
  · rw [if_pos ⟨rfl, e1⟩, if_pos (Or.inr e1)]
  · rw [if_neg (fun q => e1 q.2)]
    by_cases e2 : i = 4 * (a : Nat) + (b : Nat)
    · rw [if_pos ⟨rfl, e2⟩, if_pos (Or.inl e2)]
    · rw [if_neg (fun q => e2 q.2), if_neg (by omega)]
theorem J110 {u v : Int} (hd : 10 ≤ d) (hI : Inv s) : Ev xs L T0 106 d 110 [rf 1, it u, it v] s (qi fun r s1 => Ev xs L T0 106 d 210 [rf 73, it u, it v] s1 (qi fun r2 s2 => r2 = r ∧ Inv s2)) := by
  obtain ⟨w, t, n, x0, hw, hE⟩ := hI.wk
  have hn := hw.1.1.2
  have ht := hw.1.2.1.1
  by_cases hu : 0 ≤ u ∧ u < 4
  · by_cases hv : 0 ≤ v ∧ v < 4
    · by_cases huv : u = v
      · refine e110 (by omega) (f110_0 (i126 (by omega) (fun _ => ⟨fun z => absurd z (by decide), fun _ => i126 (by omega) (fun _ => ⟨fun z => absurd z (by decide), fun _ => ⟨fun z => absurd huv z, fun _ => ?_⟩⟩) (fun z => absurd hv z)⟩) (fun z => absurd hu z)))
        exact e210 (by omega) (f210_0 (i134 (by omega) (fun _ => ⟨fun z => absurd z (by decide), fun _ => i134 (by omega) (fun _ => ⟨fun z => absurd z (by decide), fun _ => ⟨fun z => absurd huv z, fun _ => ⟨rfl, hI⟩⟩⟩) (fun z => absurd hv z)⟩) (fun z => absurd hu z)))
      · obtain ⟨a, rfl⟩ : ∃ a : Nat, u = (a : Nat) := ⟨u.toNat, by omega⟩
        obtain ⟨b, rfl⟩ : ∃ b : Nat, v = (b : Nat) := ⟨v.toNat, by omega⟩
        have ha : a < 4 := by omega
        have hb : b < 4 := by omega
        refine e110 (by omega) (f110_0 (i126 (by omega) (fun _ => ⟨fun z => absurd z (by decide), fun _ => i126 (by omega) (fun _ => ⟨fun z => absurd z (by decide), fun _ => ⟨fun _ => ?_, fun z => absurd huv z⟩⟩) (fun z => absurd hv z)⟩) (fun z => absurd hu z)))
        refine i4 (by omega) hu hv ?_
        have hsy := hI.1.2.2.2.2.2.2.2.2.2.1.2.2.1 a b ha hb
        generalize hwas : s 9 (4 * (a : Nat) + (b : Nat)) = was at hsy
        have ew : zup (zup s 9 (4 * (a : Nat) + (b : Nat)) 1) 9 (4 * (b : Nat) + (a : Nat)) 1 = jn9 s a b 1 := rfl
        rw [ew]
        have hsw : sW (jn9 w a b 1) (jn9 s a b 1) := fun c hc => by
          by_cases e : c = 9
          · subst e
            exact funext fun i => by rw [jn9_at, jn9_at, hw.2.1 9 rfl]
          · rw [jn9_ne _ _ _ _ e, jn9_ne _ _ _ _ e]; exact hw.2.1 c hc
        have hk2 : wOk (jn9 w a b 1) t n := by
          obtain ⟨⟨q1, q2⟩, ⟨q3, q4⟩, q5, q6⟩ := hw.1
          refine ⟨⟨by rw [jn9_ne _ _ _ _ (by decide)]; exact q1, q2⟩, ⟨q3, by rw [jn9_ne _ _ _ _ (by omega), jn9_ne _ _ _ _ (by omega)]; exact q4⟩, fun p hp => ?_, fun i h0 h1 => ?_⟩
          · rw [jn9_ne _ _ _ _ (by decide), jn9_ne _ _ _ _ (by decide), jn9_ne _ _ _ _ (by decide), jn9_ne _ _ _ _ (by decide), jn9_ne _ _ _ _ (by decide)]; exact q5 p hp
          · rw [jn9_at]
            split
            · omega
            · exact q6 i h0 h1
        refine i122 (by omega) ht (by rw [jn9_ne _ _ _ _ (by decide)]; exact hw.2.2.2.2.2.1.2) ⟨t, ht, rfl, ?_⟩
        refine i124 (m := 0) (w := jn9 w a b 1) (by omega) (by decide) hk2 hsw hw.2.2.1 (by rw [jn9_ne _ _ _ _ (by decide)]; exact hw.2.2.2.2.2.1.1) (by rw [jn9_ne _ _ _ _ (by decide)]; exact hw.2.2.2.2.2.2.1) (fun r hr => by rw [jn9_ne _ _ _ _ (by decide)]; exact hw.2.2.2.2.2.2.2.1 r hr) fun r s1 hr hf h09 => ?_
        refine i4 (by omega) hu hv ?_
        have ew1 : zup (zup s1 9 (4 * (a : Nat) + (b : Nat)) was) 9 (4 * (b : Nat) + (a : Nat)) was = jn9 s1 a b was := rfl
        rw [ew1]
        have f1 : fQ s (jn9 s1 a b was) := fun c i q1 q2 => by
          by_cases e : c = 9
          · subst e
            rw [jn9_at]
            by_cases e2 : i = 4 * (a : Nat) + (b : Nat) ∨ i = 4 * (b : Nat) + (a : Nat)
            · rw [if_pos e2]
              rcases e2 with e2 | e2
              · rw [e2, hwas]
              · rw [e2, ← hsy]
            · rw [if_neg e2, hf 9 i q1 q2, jn9_at, if_neg e2]
          · rw [jn9_ne _ _ _ _ e, hf c i q1 q2, jn9_ne _ _ _ _ e]
        have hw1 := f1.wk hw
        have hm1 := hw1.2.2.2.1
        have hx1 := hw1.2.2.2.2.1
        have z09 : jn9 s1 a b was 0 9 = 0 := by rw [jn9_ne _ _ _ _ (by decide)]; exact h09
        generalize jn9 s1 a b was = s3 at f1 hw1 hm1 hx1 z09
        have zi : ∀ a b : Nat, a < 4 → b < 4 → zw (zw (4 * (a : Nat)) + (b : Nat)) = 4 * (a : Nat) + (b : Nat) := fun a b ha hb => by rw [zw_id (x := 4 * ((a : Nat) : Int)) (by omega) (by omega), zw_id (by omega) (by omega)]
        refine e210 (by omega) (f210_0 (i134 (by omega) (fun _ => ⟨fun z => absurd z (by decide), fun _ => i134 (by omega) (fun _ => ⟨fun z => absurd z (by decide), fun _ => ⟨fun _ => ?_, fun z => absurd huv z⟩⟩) (fun z => absurd hv z)⟩) (fun z => absurd hu z)))
        rw [zi a b ha hb, zi b a hb ha]
        have e71 : ∀ i j : Nat, i < 4 → j < 4 → s3 73 (4 * (i : Nat) + (j : Nat)) = s3 9 (4 * (i : Nat) + (j : Nat)) := fun i j hi hj => by
          rw [hm1.2.2.2.2 _ (by omega) (by omega), hw1.2.1 9 rfl]
        have es : s3 73 (4 * (a : Nat) + (b : Nat)) = s3 73 (4 * (b : Nat) + (a : Nat)) := by
          rw [e71 a b ha hb, e71 b a hb ha, f1 9 _ (by unfold scr; omega) (by omega), f1 9 _ (by unfold scr; omega) (by omega), hwas, hsy]
        have hc : ∀ c, c ≠ 73 → (zup (zup s3 73 (4 * (a : Nat) + (b : Nat)) 1) 73 (4 * (b : Nat) + (a : Nat)) 1) c = s3 c := fun c hc => by rw [zune _ _ _ hc, zune _ _ _ hc]
        have hm2 : Mst (jn9 w a b 1) t n (zup (zup s3 73 (4 * (a : Nat) + (b : Nat)) 1) 73 (4 * (b : Nat) + (a : Nat)) 1) := by
          obtain ⟨q1, ⟨q2, q3, q4⟩, ⟨q5, q6⟩, q7, q8⟩ := hm1
          refine ⟨fun c h22 hc2 => ?_, ⟨?_, ?_, ?_⟩, ⟨by rw [hc 72 (by decide)]; exact q5, by rw [hc 72 (by decide)]; exact q6⟩, fun p hp => ?_, fun i h0 h1 => ?_⟩
          · have := stc_out hc2
            rw [hc c (by omega), jn9_ne _ _ _ _ (by omega)]; exact q1 c h22 hc2
          · exact cX q4 (fun c i hm => by rw [hc c (by unfold mX at hm; omega)]) q2
          · rw [hc 0 (by decide)]; exact q3
          · rw [hc 0 (by decide)]; exact q4
          · rw [hc 74 (by decide), hc 76 (by decide), hc 77 (by decide), hc 78 (by decide), hc 79 (by decide), hc 80 (by decide), jn9_ne _ _ _ _ (by decide), jn9_ne _ _ _ _ (by decide), jn9_ne _ _ _ _ (by decide), jn9_ne _ _ _ _ (by decide), jn9_ne _ _ _ _ (by decide), jn9_ne _ _ _ _ (by decide)]; exact q7 p hp
          · rw [jn9_at, zg, zg]
            by_cases e1 : i = 4 * (b : Nat) + (a : Nat)
            · rw [if_pos ⟨rfl, e1⟩, if_pos (Or.inr e1)]
            · rw [if_neg (fun q => e1 q.2)]
              by_cases e2 : i = 4 * (a : Nat) + (b : Nat)
              · rw [if_pos ⟨rfl, e2⟩, if_pos (Or.inl e2)]
              · rw [if_neg (fun q => e2 q.2), if_neg (by omega)]; exact q8 i h0 h1
        have hx2 : mx n x0 (zup (zup s3 73 (4 * (a : Nat) + (b : Nat)) 1) 73 (4 * (b : Nat) + (a : Nat)) 1) := ⟨by rw [hc 72 (by decide)]; exact hx1.1, fun r hr => by rw [hc 75 (by decide)]; exact hx1.2 r hr⟩
        refine ⟨by omega, by omega, by omega, i197 (m := 0) (by omega) (by decide) hk2 hm2 hw.2.2.1 hx2 fun r2 s5 hr2 hf5 => ⟨by omega, by omega, hr2.uniq (fun _ _ _ => Iff.rfl) hr, ?_⟩⟩
        refine hw.fin hI.1 f1 (Or.inl z09) (fun q => absurd z09 q) ⟨fun c hc2 => ?_, fun c i q1 q2 => ?_⟩
        · rw [zune _ _ _ (by omega), zune _ _ _ (by omega), hf5.1 c hc2, hc c (by omega)]
        · rw [zg, zg]
          by_cases e1 : c = 73 ∧ i = 4 * (b : Nat) + (a : Nat)
          · rw [if_pos e1, e1.1, e1.2]; exact es
          · rw [if_neg e1]
            by_cases e2 : c = 73 ∧ i = 4 * (a : Nat) + (b : Nat)
            · rw [if_pos e2, e2.1, e2.2]
            · rw [if_neg e2, hf5.2 c i q1 q2, zg, if_neg e1, zg, if_neg e2]
    · exact e110 (by omega) (f110_0 (i126 (by omega) (fun _ => ⟨fun z => absurd z (by decide), fun _ => i126 (by omega) (fun z => absurd z hv) (fun _ => ⟨fun _ => e210 (by omega) (f210_0 (i134 (by omega) (fun _ => ⟨fun z => absurd z (by decide), fun _ => i134 (by omega) (fun z => absurd z hv) (fun _ => ⟨fun _ => ⟨rfl, hI⟩, fun z => absurd rfl z⟩)⟩) (fun z => absurd hu z))), fun z => absurd rfl z⟩)⟩) (fun z => absurd hu z)))
  · exact e110 (by omega) (f110_0 (i126 (by omega) (fun z => absurd z hu) (fun _ => ⟨fun _ => e210 (by omega) (f210_0 (i134 (by omega) (fun z => absurd z hu) (fun _ => ⟨fun _ => ⟨rfl, hI⟩, fun z => absurd rfl z⟩))), fun z => absurd rfl z⟩)))
/-! first -/
def fsV (F : Nat → Nat → Prop) (n : Nat) (r : Int) : Prop := (r = -1 ∧ ∀ p q, p < n → q < n → ¬ F p q) ∨ ∃ p q, p < n ∧ q < n ∧ F p q ∧ r = 10 * (p : Nat) + (q : Nat) ∧ ∀ a b, a < n → b < n → (a < p ∨ a = p ∧ b < q) → ¬ F a b
theorem fsV.uniq {F : Nat → Nat → Prop} {n : Nat} {r r2 : Int} (h : fsV F n r) (h2 : fsV F n r2) : r = r2 := by
  rcases h with ⟨rfl, h⟩ | ⟨p, q, p1, p2, p3, p4, p5⟩
  · rcases h2 with ⟨rfl, _⟩ | ⟨a, b, a1, a2, a3, a4, a5⟩
    · rfl
    · exact absurd a3 (h a b a1 a2)
  · rcases h2 with ⟨rfl, h⟩ | ⟨a, b, a1, a2, a3, a4, a5⟩
    · exact absurd p3 (h p q p1 p2)
    · have x1 : ¬ (a < p ∨ a = p ∧ b < q) := fun z => p5 a b a1 a2 z a3
      have x2 : ¬ (p < a ∨ p = a ∧ q < b) := fun z => a5 p q p1 p2 z p3
      omega
theorem lst.up {w : Pl} {t n m x0 L1 L2 : Nat} {Q : Nat → Prop} {k : Nat} (h : lst w t n m x0 L1 Q (k : Nat)) (hl : L1 ≤ L2) : lst w t n m x0 L2 Q (k : Nat) := by
  rcases h with ⟨e, _⟩ | ⟨k2, e, ⟨y, h1, h2⟩, h3⟩
  · omega
  · have hk : k2 = k := by omega
    subst hk
    refine Or.inr ⟨k2, rfl, ⟨y, h1.lim (by have := h1.2.2; omega), h2⟩, fun y2 j hd hq => ?_⟩
    by_cases e : j ≤ L1
    · exact h3 y2 j (hd.lim e) hq
    · have := h1.2.2; omega
theorem i125 {w : Pl} {t n y H : Nat} {P : Int → Pl → Prop} (hd : 7 ≤ d) (hk : wOk w t n) (hw : sW w s) (hl : Lrn w t n s) (h1 : s 1 1 = (n : Nat)) (hy : okx n y) (hH : H ≤ 400) (p1 : lst w t n 0 y 400 (QT w n (fun _ => true)) (H : Nat) → ∀ s1, fRe s s1 → P 1 s1) (p0 : ¬ lst w t n 0 y 400 (QT w n (fun _ => true)) (H : Nat) → ∀ s1, fRe s s1 → P 0 s1) : Ev xs L T0 106 d 125 [rf 1, it (H : Nat), it (y : Nat)] s (qi P) := by
  have hn := hk.1.2
  refine e125 (by omega) (f125_0 (i40 (by omega) hn h1 hl ?_))
  have hQ : ∀ x, zand (awV w n x : Nat) ((btn (fun p => !uA (w 3 p) 3) n : Nat) : Int) = ((btn (fun p => !uA (w 3 p) 3) n : Nat) : Int) ↔ QT w n (fun _ => true) x := fun x => by
    have := QT_need (w := w) hn (fun _ => true) x
    simpa using this
  refine i54 (m := 0) (Lm := H) (Q := QT w n (fun _ => true)) (by omega) (by decide) hk hw hl hy hH hQ (fun k s2 hlk hf => ?_) (fun s2 hn2 _ hf => ?_)
  · have hup := hlk.up hH
    refine ⟨fun z => p0 (fun q => z (hup.uniq (fun _ _ _ => Iff.rfl) q)) s2 hf, fun z => p1 ?_ s2 hf⟩
    have e : ((k : Nat) : Int) = (H : Nat) := Classical.not_not.mp z
    rw [← e]; exact hup
  · refine ⟨fun _ => p0 (fun q => ?_) s2 hf, fun z => absurd (by omega) z⟩
    rcases q with ⟨e, _⟩ | ⟨k, e, ⟨z, g1, g2⟩, _⟩
    · omega
    · exact hn2 z k (g1.lim (by omega)) g2
theorem fLk.Ln {w s s1 : Pl} {t n : Nat} (h : fLk s s1) (v : Lrn w t n s) : Lrn w t n s1 := h.fSr.Ln v
theorem fLk.fQ {s s1 : Pl} (h : fLk s s1) : fQ s s1 := fun c i a _ => h c i (by unfold scr at a; omega)
theorem J112 (hd : 12 ≤ d) (hI : Inv s) : Ev xs L T0 106 d 112 [rf 1] s (qi fun r s1 => Ev xs L T0 106 d 212 [rf 73] s1 (qi fun r2 s2 => r2 = r ∧ Inv s2)) := by
  obtain ⟨w, t, n, x0, hw, hE⟩ := hI.wk
  have hn := hw.1.1.2
  have ht := hw.1.2.1.1
  have hx0 := hw.2.2.1
  refine e112 (by omega) (f112_0 (i123 (by omega) hw hE hI.h9 fun s1 k1 k2 k3 k4 => ?_))
  have hw1 := k1.wk hw
  refine i61 (by omega) hn hw1.2.2.2.2.2.1.1 k3 k4 fun H hH => ⟨fun z => ?_, fun z => ?_⟩
  · have hHn := hH.nn
    obtain ⟨h9, rfl⟩ : ∃ h9 : Nat, H = (h9 : Nat) := ⟨H.toNat, by omega⟩
    have h400 : h9 ≤ 400 := by omega
    have f0 : fQ s (zup s1 0 9 0) := fun c i a b => by rw [zg, if_neg b]; exact k1 c i a b
    have hw0 := f0.wk hw
    have l0 : Lrn w t n (zup s1 0 9 0) := by
      unfold Lrn at *
      rw [zune _ _ _ (by decide), zune _ _ _ (by decide), zune _ _ _ (by decide)]
      exact k3
    refine i8 (by omega) hn hw0.2.2.2.2.2.1.1 hw0.2.2.2.2.2.2.1 hw0.2.2.2.2.2.2.2.1 hx0 ?_
    generalize hF : (fun p q : Nat => swp w t n x0 p q ∧ lst w t n 0 (swd x0 p q) 400 (QT w n (fun _ => true)) (h9 : Nat)) = F
    -- the reference
    have model : ∀ (r : Int) (sE : Pl), fsV F n r → fQ s sE → sE 0 9 = 0 → Ev xs L T0 106 d 212 [rf 73] sE (qi fun r2 s2 => r2 = r ∧ Inv s2) := by
      intro r sE hr fE zE
      have hwE := fE.wk hw
      refine e212 (by omega) (f212_0 (i197 (m := 0) (by omega) (by decide) hwE.1 hwE.2.2.2.1 hwE.2.2.1 hwE.2.2.2.2.1 fun r2 sM hr2 hfM => ?_))
      have e := hr2.uniq (fun _ _ _ => Iff.rfl) hH
      subst e
      refine ⟨fun _ => ?_, fun z2 => absurd z z2⟩
      have done : ∀ (v : Int) (s2 : Pl), fsV F n v → fM sE s2 → v = r ∧ Inv s2 := fun v s2 hv hf => ⟨hv.uniq hr, hw.fin hI.1 fE (Or.inl zE) (fun q => absurd zE q) hf⟩
      have inn : ∀ (p : Nat), p < n → (∀ (s2 : Pl) (v3 : Int) (w4 : Option AV), fM sE s2 → (∀ a b, a < n → b < n → a < p + 1 → ¬ F a b) → Fr xs L T0 106 (d - 1) 212 14 [some (rf 73), some (it (h9 : Nat)), some (it ((p + 1 : Nat) : Int)), some (it v3), w4] [] s2 (qi fun r2 s2 => r2 = r ∧ Inv s2)) → ∀ (j k : Nat) (s2 : Pl) (v3 : Int) (w4 : Option AV), k + j = n → v3 = (k : Nat) → fM sE s2 → (∀ a b, a < n → b < n → (a < p ∨ a = p ∧ b < k) → ¬ F a b) → Fr xs L T0 106 (d - 1) 212 24 [some (rf 73), some (it (h9 : Nat)), some (it (p : Nat)), some (it v3), w4] [] s2 (qi fun r2 s2 => r2 = r ∧ Inv s2) := by
        intro p hp out j
        have zp : ∀ _ : Unit, zw ((p : Nat) + 1) = ((p + 1 : Nat) : Int) := fun _ => by rw [zw_id (by omega) (by omega)]; omega
        induction j with
        | zero =>
          intro k s2 v3 w4 hk h3 hf hno
          have hm2 := hf.2.mst hwE.2.2.2.1
          refine f212_24 ⟨fun _ => ?_, fun z => absurd (by rw [hm2.2.2.1.2]; omega) z⟩
          rw [zp ()]
          exact out s2 _ _ hf (fun a b ha hb hap => hno a b ha hb (by omega))
        | succ j ih =>
          intro k s2 v3 w4 hk h3 hf hno
          subst h3
          have zk : ∀ _ : Unit, zw ((k : Nat) + 1) = ((k + 1 : Nat) : Int) := fun _ => by rw [zw_id (by omega) (by omega)]; omega
          have hm2 := hf.2.mst hwE.2.2.2.1
          have hx2 := hf.2.mx hwE.2.2.2.2.1
          have nx : ∀ (s3 : Pl) (w5 : Option AV), fM sE s3 → ¬ F p k → Fr xs L T0 106 (d - 1) 212 76 [some (rf 73), some (it (h9 : Nat)), some (it (p : Nat)), some (it (k : Nat)), w5] [] s3 (qi fun r2 s2 => r2 = r ∧ Inv s2) := fun s3 w5 hf3 hnF => f212_76 (by
            rw [zk ()]
            refine ih (k + 1) s3 _ _ (by omega) rfl hf3 fun a b ha hb hab => ?_
            by_cases e : a = p ∧ b = k
            · rw [e.1, e.2]; exact hnF
            · exact hno a b ha hb (by omega))
          refine f212_24 ⟨fun z => absurd z (by rw [hm2.2.2.1.2]; omega), fun _ => ?_⟩
          refine i176 (by omega) hwE.1 hm2 hx2 (by omega) (by omega) (fun hs s3 hs3 => ⟨fun _ => ?_, fun z => absurd (by decide) z⟩) (fun hs s3 hs3 => ⟨fun z => absurd rfl z, fun _ => nx s3 _ (hf.trans hs3.fM) (by rw [← hF]; exact fun q => hs q.1)⟩)
          have hpk : p ≠ k := fun e => by have := hs.2.1; have hb := bt_lt x0; rw [e] at this; omega
          have hm3 := hs3.mst hm2
          have hx3 := hs3.mx hx2
          refine i177a (by omega) hn hp (by omega) hpk hx3 fun s4 m1 m2 m3 => ?_
          have hm4 : Mst w t n s4 := cMst (fun c i hm => by have := mMs_out hm; rw [m2 c (by omega)]) hm3
          refine i197 (m := 0) (by omega) (by decide) hwE.1 hm4 (swd_ok hx0 hp (by omega)) m1 fun r5 s5 hr5 hf5 => ?_
          refine i177b (by omega) hn hp (by omega) hpk hs.2.1.1 hs.2.1.2 (hf5.2.mx m1) fun s6 o1 o2 o3 => ?_
          have f6 : fM s3 s6 := by
            refine ⟨fun c hc => by rw [o2 c (by omega), hf5.1 c hc, m2 c (by omega)], fun c i q1 q2 => ?_⟩
            by_cases e : c = 75
            · subst e
              by_cases e1 : i = (p : Nat)
              · rw [e1, o1.2 p hp, hx3.2 p hp]
              · by_cases e2 : i = (k : Nat)
                · rw [e2, o1.2 k (by omega), hx3.2 k (by omega)]
                · rw [o3 i e1 e2, hf5.2 75 i q1 q2, m3 i e1 e2]
            · rw [o2 c e, hf5.2 c i q1 q2, m2 c e]
          have hall : fM sE s6 := (hf.trans hs3.fM).trans f6
          refine ⟨fun q => nx s6 _ hall (by rw [← hF]; exact fun g => q (hr5.uniq (fun _ _ _ => Iff.rfl) g.2)), fun q => ?_⟩
          have q := Classical.not_not.mp q
          refine done _ s6 (Or.inr ⟨p, k, hp, by omega, by rw [← hF]; exact ⟨hs, by rw [← q]; exact hr5⟩, ?_, fun a b ha hb hab => hno a b ha hb hab⟩) hall
          rw [zw_id (x := 10 * ((p : Nat) : Int)) (by omega) (by omega), zw_id (by omega) (by omega)]
      have outr : ∀ (j k : Nat) (s2 : Pl) (v2 : Int) (w3 w4 : Option AV), k + j = n → v2 = (k : Nat) → fM sE s2 → (∀ a b, a < n → b < n → a < k → ¬ F a b) → Fr xs L T0 106 (d - 1) 212 14 [some (rf 73), some (it (h9 : Nat)), some (it v2), w3, w4] [] s2 (qi fun r2 s2 => r2 = r ∧ Inv s2) := by
        intro j
        induction j with
        | zero =>
          intro k s2 v2 w3 w4 hk h2 hf hno
          have hm2 := hf.2.mst hwE.2.2.2.1
          exact f212_14 ⟨fun _ => done _ s2 (Or.inl ⟨rfl, fun a b ha hb => hno a b ha hb (by omega)⟩) hf, fun z => absurd (by rw [hm2.2.2.1.2]; omega) z⟩
        | succ j ih =>
          intro k s2 v2 w3 w4 hk h2 hf hno
          subst h2
          have hm2 := hf.2.mst hwE.2.2.2.1
          refine f212_14 ⟨fun z => absurd z (by rw [hm2.2.2.1.2]; omega), fun _ => ?_⟩
          exact inn k (by omega) (fun s3 v3 w4 h1 h2 => ih (k + 1) s3 _ _ _ (by omega) rfl h1 h2) n 0 s2 _ _ (by omega) rfl hf (fun a b ha hb hab => hno a b ha hb (by omega))
      exact outr n 0 sM _ _ _ (by omega) rfl hfM (fun a b ha hb hab => absurd hab (by omega))
    -- the class
    have inn : ∀ (p : Nat), p < n → (∀ (s2 : Pl) (v4 : Int), fQ s s2 → s2 0 9 = 0 → Lrn w t n s2 → (∀ a b, a < n → b < n → a < p + 1 → ¬ F a b) → Fr xs L T0 106 (d - 1) 112 33 [some (rf 1), some (it (h9 : Nat)), some (it (x0 : Nat)), some (it ((p + 1 : Nat) : Int)), some (it v4)] [] s2 (qi fun r s1 => Ev xs L T0 106 d 212 [rf 73] s1 (qi fun r2 s2 => r2 = r ∧ Inv s2))) → ∀ (j k : Nat) (s2 : Pl) (v4 : Int), k + j = n → v4 = (k : Nat) → fQ s s2 → s2 0 9 = 0 → Lrn w t n s2 → (∀ a b, a < n → b < n → (a < p ∨ a = p ∧ b < k) → ¬ F a b) → Fr xs L T0 106 (d - 1) 112 47 [some (rf 1), some (it (h9 : Nat)), some (it (x0 : Nat)), some (it (p : Nat)), some (it v4)] [] s2 (qi fun r s1 => Ev xs L T0 106 d 212 [rf 73] s1 (qi fun r2 s2 => r2 = r ∧ Inv s2)) := by
      intro p hp out j
      have zp : ∀ _ : Unit, zw ((p : Nat) + 1) = ((p + 1 : Nat) : Int) := fun _ => by rw [zw_id (by omega) (by omega)]; omega
      induction j with
      | zero =>
        intro k s2 v4 hk h4 hf h0 hl hno
        have hw2 := hf.wk hw
        refine f112_47 ⟨fun _ => ?_, fun z => absurd (by rw [hw2.2.2.2.2.2.1.1]; omega) z⟩
        rw [zp ()]
        exact out s2 _ hf h0 hl (fun a b ha hb hap => hno a b ha hb (by omega))
      | succ j ih =>
        intro k s2 v4 hk h4 hf h0 hl hno
        subst h4
        have zk : ∀ _ : Unit, zw ((k : Nat) + 1) = ((k + 1 : Nat) : Int) := fun _ => by rw [zw_id (by omega) (by omega)]; omega
        have hw2 := hf.wk hw
        have nx : ∀ (s3 : Pl), fQ s s3 → s3 0 9 = 0 → Lrn w t n s3 → ¬ F p k → Fr xs L T0 106 (d - 1) 112 107 [some (rf 1), some (it (h9 : Nat)), some (it (x0 : Nat)), some (it (p : Nat)), some (it (k : Nat))] [] s3 (qi fun r s1 => Ev xs L T0 106 d 212 [rf 73] s1 (qi fun r2 s2 => r2 = r ∧ Inv s2)) := fun s3 hf3 h03 hl3 hnF => f112_107 (by
          rw [zk ()]
          refine ih (k + 1) s3 _ (by omega) rfl hf3 h03 hl3 fun a b ha hb hab => ?_
          by_cases e : a = p ∧ b = k
          · rw [e.1, e.2]; exact hnF
          · exact hno a b ha hb (by omega))
        refine f112_47 ⟨fun z => absurd z (by rw [hw2.2.2.2.2.2.1.1]; omega), fun _ => ?_⟩
        refine i42 (by omega) hw2.1.1.1 hn hx0.1 hw2.2.1 fun s3 m1 m2 => ?_
        have hf3 := hf.trans m2.fQ
        have hw3 := hf3.wk hw
        have hl3 := m2.Ln hl
        have h03 : s3 0 9 = 0 := by rw [m2 0 9 (by decide)]; exact h0
        refine i47 (by omega) hw3.1 hw3.2.1 hl3 m1 (by omega) (by omega) (fun hs => ⟨fun z => absurd z (by decide), fun _ => ?_⟩) (fun hs => ⟨fun _ => nx s3 hf3 h03 hl3 (by rw [← hF]; exact fun q => hs q.1), fun z => absurd rfl z⟩)
        refine i45 (by omega) hw3.2.1 hw3.1.1.1 hn hp (by omega) hx0.1 m1.1 hs.2.1.1 hs.2.1.2 ?_
        refine i125 (by omega) hw3.1 hw3.2.1 hl3 hw3.2.2.2.2.2.1.1 (swd_ok hx0 hp (by omega)) h400 (fun g s4 hf4 => ⟨fun z => absurd z (by decide), fun _ => ?_⟩) (fun g s4 hf4 => ⟨fun _ => nx s4 (hf3.trans hf4.fQ) (by rw [hf4 0 9 (by decide) (by decide) (by decide) (by decide) (by decide)]; exact h03) (hf4.Ln hl3) (by rw [← hF]; exact fun q => g q.2), fun z => absurd rfl z⟩)
        rw [zw_id (x := 10 * ((p : Nat) : Int)) (by omega) (by omega), zw_id (by omega) (by omega)]
        exact model _ s4 (Or.inr ⟨p, k, hp, by omega, by rw [← hF]; exact ⟨hs, g⟩, rfl, fun a b ha hb hab => hno a b ha hb hab⟩) (hf3.trans hf4.fQ) (by rw [hf4 0 9 (by decide) (by decide) (by decide) (by decide) (by decide)]; exact h03)
    have outr : ∀ (j k : Nat) (s2 : Pl) (v3 : Int) (w4 : Option AV), k + j = n → v3 = (k : Nat) → fQ s s2 → s2 0 9 = 0 → Lrn w t n s2 → (∀ a b, a < n → b < n → a < k → ¬ F a b) → Fr xs L T0 106 (d - 1) 112 33 [some (rf 1), some (it (h9 : Nat)), some (it (x0 : Nat)), some (it v3), w4] [] s2 (qi fun r s1 => Ev xs L T0 106 d 212 [rf 73] s1 (qi fun r2 s2 => r2 = r ∧ Inv s2)) := by
      intro j
      induction j with
      | zero =>
        intro k s2 v3 w4 hk h3 hf h0 hl hno
        have hw2 := hf.wk hw
        exact f112_33 ⟨fun _ => model _ s2 (Or.inl ⟨rfl, fun a b ha hb => hno a b ha hb (by omega)⟩) hf h0, fun z => absurd (by rw [hw2.2.2.2.2.2.1.1]; omega) z⟩
      | succ j ih =>
        intro k s2 v3 w4 hk h3 hf h0 hl hno
        subst h3
        have hw2 := hf.wk hw
        refine f112_33 ⟨fun z => absurd z (by rw [hw2.2.2.2.2.2.1.1]; omega), fun _ => ?_⟩
        exact inn k (by omega) (fun s3 v4 g1 g2 g3 g4 => ih (k + 1) s3 _ _ (by omega) rfl g1 g2 g3 g4) n 0 s2 _ (by omega) rfl hf h0 hl (fun a b ha hb hab => hno a b ha hb (by omega))
    exact outr n 0 _ _ _ (by omega) rfl f0 (by rw [zg, if_pos ⟨rfl, rfl⟩]) l0 (fun a b ha hb hab => absurd hab (by omega))
  · refine e212 (by omega) (f212_0 (i197 (m := 0) (by omega) (by decide) hw1.1 hw1.2.2.2.1 hw1.2.2.1 hw1.2.2.2.2.1 fun r2 sM hr2 hfM => ?_))
    have e := hr2.uniq (fun _ _ _ => Iff.rfl) hH
    exact ⟨fun z2 => absurd (by omega) z, fun _ => ⟨rfl, hw.fin hI.1 k1 (Or.inr k2) (fun _ => ⟨k3, k4⟩) hfM⟩⟩
