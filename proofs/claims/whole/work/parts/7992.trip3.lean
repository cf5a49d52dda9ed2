/-! judge, run, where -/
theorem fDo.mvs {n m : Nat} {s s1 : Pl} {K A B : Nat → Nat} (h : fDo n s s1) (v : MVs s K A B m) : MVs s1 K A B m := by
  refine ⟨⟨by rw [h 68 4 (by decide) (by decide) (fun e => absurd e (by decide)) (fun e => absurd e (by decide))]; exact v.1.1, by rw [h 72 29 (by decide) (by decide) (fun e => absurd e (by decide)) (fun _ => by decide)]; exact v.1.2.1, v.1.2.2⟩, fun i hi => ?_⟩
  rw [h 69 _ (by decide) (by decide) (fun e => absurd e (by decide)) (fun e => absurd e (by decide)), h 70 _ (by decide) (by decide) (fun e => absurd e (by decide)) (fun e => absurd e (by decide)), h 71 _ (by decide) (by decide) (fun e => absurd e (by decide)) (fun e => absurd e (by decide)), h 89 _ (by decide) (by decide) (fun e => absurd e (by decide)) (fun e => absurd e (by decide)), h 90 _ (by decide) (by decide) (fun e => absurd e (by decide)) (fun e => absurd e (by decide)), h 91 _ (by decide) (by decide) (fun e => absurd e (by decide)) (fun e => absurd e (by decide))]
  exact v.2 i hi
theorem kept9.mvs {m : Nat} {s s1 : Pl} {K A B : Nat → Nat} (h : kept9 s s1) (v : MVs s K A B m) : MVs s1 K A B m := v.fQ h.fM.2
variable {xs : Nat → Int} {L : Nat} {d : Nat} {s : Pl}
/-- judge, the reference's -/
theorem i187 {w : Pl} {t n x0 m : Nat} {K A B : Nat → Nat} {P : Int → Pl → Prop} (hd : 6 ≤ d) (hk : wOk w t n) (hm : Mst w t n s) (hx0 : okx n x0) (hx : mx n x0 s) (hv : MVs s K A B m) (h : ∀ s1 : Pl, fM s s1 → P (trw w t n x0 K A B m) s1) : Ev xs L T0 106 d 187 [rf 73] s (qi P) := by
  have hn := hk.1.2
  have hm16 := hv.1.2.2
  have hA4 : ∀ i, i < m → K i = 0 → A i < 4 := fun i hi => (hv.2 i hi).2.2.2.2.1
  refine e187 (by omega) (f187_0 (i184 (by omega) fun s4 hkp => ?_))
  have hm4 : Mst w t n s4 := hkp.fM.2.mst hm
  have hx4 : mx n x0 s4 := hkp.fM.2.mx hx
  have l : ∀ (j i : Nat) (s1 : Pl) (v1 v2 : Int), i + j = m + 1 → 1 ≤ j ∨ 0 ≤ v1 → (v1 < 0 → v2 = (i : Nat) ∧ mx n (trx w t n x0 K A B i) s1) → i ≤ m ∨ 0 ≤ v1 → (0 ≤ v1 → v1 = trw w t n x0 K A B m) → (v1 < 0 → v1 = -1 ∧ trw w t n x0 K A B i = -1) → fDo n s4 s1 → Fr xs L T0 106 (d - 1) 187 8 [some (rf 73), some (it v1), some (it v2)] [] s1 (qi P) := by
    intro j
    induction j with
    | zero =>
      intro i s1 v1 v2 hi hj h2 him h3 h4 hf
      have hv1 : 0 ≤ v1 := by omega
      have fin : ∀ v2 : Int, Fr xs L T0 106 (d - 1) 187 36 [some (rf 73), some (it v1), some (it v2)] [] s1 (qi P) := fun v2 => f187_36 (i185d (by omega) hn hkp hf fun s2 hs2 => by rw [h3 hv1]; exact h s2 hs2)
      exact f187_8 ⟨fun _ => fin _, fun _ => ⟨fun _ => fin _, fun z => absurd hv1 z⟩⟩
    | succ j ih =>
      intro i s1 v1 v2 hi hj h2 him h3 h4 hf
      have fin : v1 = trw w t n x0 K A B m → ∀ v2 : Int, Fr xs L T0 106 (d - 1) 187 36 [some (rf 73), some (it v1), some (it v2)] [] s1 (qi P) := fun e v2 => f187_36 (i185d (by omega) hn hkp hf fun s2 hs2 => by rw [e]; exact h s2 hs2)
      by_cases hv1 : 0 ≤ v1
      · exact f187_8 ⟨fun _ => fin (h3 hv1) _, fun _ => ⟨fun _ => fin (h3 hv1) _, fun z => absurd hv1 z⟩⟩
      · obtain ⟨a1, a2⟩ := h2 (by omega)
        obtain ⟨a3, a4⟩ := h4 (by omega)
        subst a1
        have hv4 := hf.mvs (hkp.mvs hv)
        have e29 : s1 72 29 = (m : Nat) := hv4.1.2.1
        by_cases him2 : i = m
        · subst him2
          exact f187_8 ⟨fun _ => fin (by omega) _, fun z => absurd (by omega) z⟩
        · obtain ⟨_, ⟨q1, q2, q3⟩, q4, q5, q6, q7, q8⟩ := hv4.2 i (by omega)
          have zi : ∀ _ : Unit, zw ((i : Nat) + 1) = ((i + 1 : Nat) : Int) := fun _ => by rw [zw_id (by omega) (by omega)]; omega
          refine f187_8 ⟨fun z => absurd z (by omega), fun _ => ⟨fun z => absurd z hv1, fun _ => i186 (by omega) hk (hf.mst hm4) (trx_ok hx0 hA4 i (by omega)) a2 (by omega) q1 q2 q3 q4 q6 q7 q8 fun s2 g1 g2 => ?_⟩⟩
          have hr := mvh_rng (w := w) (t := t) (x := trx w t n x0 K A B i) (k := K i) q5
          by_cases hmv : mvo w t n (trx w t n x0 K A B i) (K i) (A i) (B i) = true
          · rw [if_pos hmv]
            refine ⟨fun _ => f187_30 ?_, fun z => absurd hr.1 z⟩
            rw [zi ()]
            have e : trw w t n x0 K A B (i + 1) = -1 := by simp only [trw]; rw [a4, if_neg (by decide), if_pos hmv]
            exact ih (i + 1) s2 v1 _ (by omega) (by omega) (fun _ => ⟨rfl, g1⟩) (by omega) (fun z => absurd z hv1) (fun _ => ⟨a3, e⟩) (hf.trans g2.fDo)
          · rw [if_neg hmv]
            refine ⟨fun z => absurd z (by decide), fun _ => f187_30 ?_⟩
            have e : trw w t n x0 K A B (i + 1) = (i : Nat) := by simp only [trw]; rw [a4, if_neg (by decide), if_neg hmv]
            have e2 : trw w t n x0 K A B m = (i : Nat) := by
              have := trw_stay (w := w) (t := t) (n := n) (x0 := x0) (K := K) (A := A) (B := B) (i := i + 1) (by rw [e]; omega) (m - (i + 1))
              rw [show i + 1 + (m - (i + 1)) = m from by omega, e] at this
              exact this
            refine ih (i + 1) s2 _ _ (by omega) (Or.inr (by omega)) (fun z => absurd z (by omega)) (Or.inr (by omega)) (fun _ => e2.symm) (fun z => absurd z (by omega)) (hf.trans g2.fDo)
  exact l (m + 1) 0 s4 _ _ (by omega) (by omega) (fun _ => ⟨rfl, hx4⟩) (by omega) (fun z => absurd z (by decide)) (fun _ => ⟨rfl, rfl⟩) (fDo.refl n s4)
/-- judge -/
theorem J98 (hd : 8 ≤ d) (hI : Inv s) : Ev xs L T0 106 d 98 [rf 1] s (qi fun r s1 => Ev xs L T0 106 d 187 [rf 73] s1 (qi fun r2 s2 => r2 = r ∧ Inv s2)) := by
  obtain ⟨w, t, n, x0, hw, hE⟩ := hI.wk
  obtain ⟨K, A, B, m, hv⟩ := hI.1.mvs
  have ht := hw.1.2.1.1
  refine e98 (by omega) (f98_0 (i122 (by omega) ht hw.2.2.2.2.2.1.2 ⟨t, ht, rfl, i34q (by omega) hw hE fun s1 h1 => ?_⟩))
  have hv1 := hv.fQ h1.1
  rw [hv1.1.1]
  refine i75 (by omega) hw h1 hv1 (Nat.le_refl m) fun s2 k1 k2 k3 => ?_
  have hw2 := k1.1.wk hw
  rw [k3.2.2.2.1]
  exact i187 (by omega) hw.1 hw2.2.2.2.1 hw.2.2.1 hw2.2.2.2.2.1 (hv1.fQ (k2.fQ ht)) fun s3 hs3 => ⟨rfl, k1.fin hI hw hs3⟩
/-- doMoves -/
theorem i188 {w : Pl} {t n x0 m k : Nat} {K A B : Nat → Nat} {P : Pl → Prop} (hd : 6 ≤ d) (hk : wOk w t n) (hm : Mst w t n s) (hx0 : okx n x0) (hx : mx n x0 s) (hv : MVs s K A B m) (hkm : k ≤ m) (h : ∀ s4 s1 : Pl, kept9 s s4 → fDo n s4 s1 → Mst w t n s1 → mx n (trx w t n x0 K A B k) s1 → s1 72 35 = trh w t n x0 K A B k → s1 72 36 = trg w t n x0 K A B k → P s1) : Ev xs L T0 106 d 188 [rf 73, it (k : Nat)] s (qv P) := by
  have hn := hk.1.2
  have hm16 := hv.1.2.2
  have hA4 : ∀ i, i < m → K i = 0 → A i < 4 := fun i hi => (hv.2 i hi).2.2.2.2.1
  have hA99 : ∀ i, i < m → A i ≤ 99 := fun i hi => (hv.2 i hi).2.2.2.1
  refine e188 (by omega) (f188_0 (i184 (by omega) fun s4 hkp => ?_))
  have hm4 : Mst w t n s4 := hkp.fM.2.mst hm
  have hx4 : mx n x0 s4 := hkp.fM.2.mx hx
  have hv4 := hkp.mvs hv
  have l : ∀ (j i : Nat) (s1 : Pl) (v2 v3 : Int) (w4 w5 : Option AV), i + j = k → v3 = (i : Nat) → v2 = ((btn (trd w t n x0 K A B i) n : Nat) : Int) → mx n (trx w t n x0 K A B i) s1 → s1 72 35 = trh w t n x0 K A B i → s1 72 36 = trg w t n x0 K A B i → fDo n s4 s1 → Fr xs L T0 106 (d - 1) 188 18 [some (rf 73), some (it (k : Nat)), some (it v2), some (it v3), w4, w5] [] s1 (qv P) := by
    intro j
    induction j with
    | zero =>
      intro i s1 v2 v3 w4 w5 hi h3 h2 g1 g2 g3 hf
      have e : i = k := by omega
      subst e
      exact f188_18 ⟨fun _ => h s4 s1 hkp hf (hf.mst hm4) g1 g2 g3, fun z => absurd (by omega) z⟩
    | succ j ih =>
      intro i s1 v2 v3 w4 w5 hi h3 h2 g1 g2 g3 hf
      subst h3
      subst h2
      have zi : ∀ _ : Unit, zw ((i : Nat) + 1) = ((i + 1 : Nat) : Int) := fun _ => by rw [zw_id (by omega) (by omega)]; omega
      obtain ⟨_, ⟨q1, q2, q3⟩, q4, q5, q6, q7, q8⟩ := (hf.mvs hv4).2 i (by omega)
      refine f188_18 ⟨fun z => absurd z (by omega), fun _ => i186 (by omega) hk (hf.mst hm4) (trx_ok hx0 hA4 i (by omega)) g1 (by omega) q1 q2 q3 q4 q6 q7 q8 fun s2 u1 u2 => ?_⟩
      have hr := mvh_rng (w := w) (t := t) (x := trx w t n x0 K A B i) (k := K i) q5
      have r1 := trh_rng (w := w) (t := t) (n := n) (x0 := x0) (K := K) (B := B) hA99 i (by omega)
      have r2 := trg_rng (w := w) (t := t) (x0 := x0) (K := K) (A := A) (B := B) hn i
      have e35 : s2 72 35 = trh w t n x0 K A B i := by rw [u2 72 35 (by decide) (by decide) (fun e => absurd e (by decide)) (by decide)]; exact g2
      have e36 : s2 72 36 = trg w t n x0 K A B i := by rw [u2 72 36 (by decide) (by decide) (fun e => absurd e (by decide)) (by decide)]; exact g3
      have inner : ∀ (s5 : Pl) (v4 : Int), mx n (trx w t n x0 K A B (i + 1)) s5 → s5 72 35 = trh w t n x0 K A B (i + 1) → s5 72 36 = trg w t n x0 K A B i → fDo n s4 s5 → Fr xs L T0 106 (d - 1) 188 46 [some (rf 73), some (it (k : Nat)), some (it ((btn (trd w t n x0 K A B i) n : Nat) : Int)), some (it (i : Nat)), some (it v4), w5] [] s5 (qv P) := by
        intro s5 v4 b1 b2 b3 b4
        have lp : ∀ (j2 p : Nat) (s6 : Pl) (v2 v5 : Int), p + j2 = n → v5 = (p : Nat) → v2 = ((btn (fun r => trd w t n x0 K A B i r || (decide (r < p) && decide (((pl (trx w t n x0 K A B (i + 1)) r : Nat) : Int) = w 4 r))) n : Nat) : Int) → mx n (trx w t n x0 K A B (i + 1)) s6 → s6 72 35 = trh w t n x0 K A B (i + 1) → s6 72 36 = trg w t n x0 K A B i + gdd w t (trx w t n x0 K A B (i + 1)) (trh w t n x0 K A B (i + 1)) (trd w t n x0 K A B i) p → fDo n s4 s6 → Fr xs L T0 106 (d - 1) 188 49 [some (rf 73), some (it (k : Nat)), some (it v2), some (it (i : Nat)), some (it v4), some (it v5)] [] s6 (qv P) := by
          intro j2
          induction j2 with
          | zero =>
            intro p s6 v2 v5 hp h5 h2 c1 c2 c3 c4
            have e : p = n := by omega
            subst e
            refine f188_49 ⟨fun _ => ?_, fun z => absurd (by rw [(c4.mst hm4).2.2.1.2]; omega) z⟩
            rw [zi ()]
            refine ih (i + 1) s6 _ _ _ _ (by omega) rfl ?_ c1 c2 (by rw [c3]; rfl) c4
            rw [h2]
            congr 1
            exact btn_cong fun r hr => by simp [trd, hr]
          | succ j2 ih2 =>
            intro p s6 v2 v5 hp h5 h2 c1 c2 c3 c4
            subst h5
            have zp : ∀ _ : Unit, zw ((p : Nat) + 1) = ((p + 1 : Nat) : Int) := fun _ => by rw [zw_id (by omega) (by omega)]; omega
            have hm6 := c4.mst hm4
            have e703 : s6 72 3 = (n : Nat) := hm6.2.2.1.2
            refine f188_49 ⟨fun z => absurd z (by omega), fun _ => ⟨by omega, by omega, ?_⟩⟩
            rw [c1.2 p (by omega), (hm6.2.2.2.1 p (by omega)).2.1]
            refine ⟨fun z => f188_114 ?_, fun z => ?_⟩
            · rw [zp ()]
              refine ih2 (p + 1) s6 _ _ (by omega) rfl ?_ c1 c2 ?_ c4
              · rw [h2]; congr 1
                refine btn_cong fun r hr => ?_
                by_cases e : r = p
                · subst e; simp [z]
                · have : r < p + 1 ↔ r < p := by omega
                  simp [this]
              · rw [c3]; simp only [gdd]; rw [if_neg (by simp [z])]; omega
            · have z := Classical.not_not.mp z
              rw [h2, tbn hn (by omega)]
              by_cases e : trd w t n x0 K A B i p = true
              · rw [if_pos (by simp [e]; omega)]
                refine ⟨fun y => absurd rfl y, fun _ => f188_114 ?_⟩
                rw [zp ()]
                refine ih2 (p + 1) s6 _ _ (by omega) rfl ?_ c1 c2 ?_ c4
                · congr 1
                  refine btn_cong fun r hr => ?_
                  by_cases e2 : r = p
                  · subst e2; simp [e]
                  · have : r < p + 1 ↔ r < p := by omega
                    simp [this]
                · rw [c3]; simp only [gdd]; rw [if_neg (by simp [e])]; omega
              · rw [if_neg (by simp [e])]
                refine ⟨fun _ => ?_, fun y => absurd (by decide) y⟩
                rw [c2]
                refine i166w (by omega) hk hm6 (by omega) fun s7 hs7 => f188_114 ?_
                have r3 := gdd_rng w t (trx w t n x0 K A B (i + 1)) (trh w t n x0 K A B (i + 1)) (trd w t n x0 K A B i) p
                have r4 := gainV_rng w t p (trh w t n x0 K A B (i + 1))
                rw [zp (), or_btn hn (by omega), c3, zw_id (by omega) (by omega)]
                refine ih2 (p + 1) _ _ _ (by omega) rfl ?_ ?_ (by rw [zg, if_neg (by decide), hs7 72 35 (by decide) (by decide)]; exact c2) ?_ ((c4.trans hs7.fKp.fDo).trans (fDo.up (Or.inr rfl)))
                · congr 1
                  refine btn_cong fun r hr => ?_
                  by_cases e2 : r = p
                  · subst e2; simp [z]
                  · have : r < p + 1 ↔ r < p := by omega
                    simp [this, e2]
                · have := hs7.mx c1
                  exact ⟨by rw [zg, if_neg (by decide)]; exact this.1, fun r hr => by rw [zg, if_neg (fun q => absurd q.1 (by decide))]; exact this.2 r hr⟩
                · rw [zg, if_pos ⟨rfl, rfl⟩]; simp only [gdd]; rw [if_pos (by simp [z, e])]; omega
        refine f188_46 (lp n 0 s5 _ _ (by omega) rfl ?_ b1 b2 (by rw [b3]; simp [gdd]) b4)
        congr 1
        exact btn_cong fun r _ => by simp
      have eh1 : trh w t n x0 K A B (i + 1) = trh w t n x0 K A B i + mvh w t (trx w t n x0 K A B i) (K i) (A i) := rfl
      by_cases hmv : mvo w t n (trx w t n x0 K A B i) (K i) (A i) (B i) = true
      · rw [if_pos hmv]
        refine ⟨fun z => inner s2 _ u1 (by rw [e35, eh1]; omega) e36 (hf.trans u2.fDo), fun z => ?_⟩
        rw [e35, zw_id (by omega) (by omega)]
        refine inner _ _ ⟨by rw [zg, if_neg (by decide)]; exact u1.1, fun r hr => by rw [zg, if_neg (fun q => absurd q.1 (by decide))]; exact u1.2 r hr⟩ (by rw [zg, if_pos ⟨rfl, rfl⟩]; rfl) (by rw [zg, if_neg (by decide)]; exact e36) ((hf.trans u2.fDo).trans (fDo.up (Or.inl rfl)))
      · rw [if_neg hmv]
        have e0 : mvh w t (trx w t n x0 K A B i) (K i) (A i) = 0 := by
          unfold mvo at hmv
          unfold mvh
          by_cases h2 : K i = 2
          · rw [if_pos h2] at hmv; exact absurd rfl hmv
          · rw [if_neg h2] at hmv ⊢
            by_cases h0 : K i = 0
            · rw [if_pos h0] at hmv ⊢
              have : A i = bt (trx w t n x0 K A B i) := by simpa using hmv
              unfold RW
              rw [if_pos this.symm]
            · rw [if_neg h0]
        refine ⟨fun _ => inner s2 _ u1 (by rw [e35, eh1]; omega) e36 (hf.trans u2.fDo), fun z => absurd (by decide) z⟩
  refine l k 0 _ _ _ _ _ (by omega) rfl ?_ ⟨?_, fun r hr => ?_⟩ ?_ ?_ ((fDo.up (Or.inl rfl)).trans (fDo.up (Or.inr rfl)))
  · rw [(btn_zero (f := trd w t n x0 K A B 0) (n := n)).mpr (fun _ _ => rfl)]; rfl
  · rw [zg, if_neg (by decide), zg, if_neg (by decide)]; exact hx4.1
  · rw [zg, if_neg (fun q => absurd q.1 (by decide)), zg, if_neg (fun q => absurd q.1 (by decide))]; exact hx4.2 r hr
  · rw [zg, if_neg (by decide), zg, if_pos ⟨rfl, rfl⟩]; rfl
  · rw [zg, if_pos ⟨rfl, rfl⟩]; rfl
/-- run -/
theorem J99 {v1 v2 : Int} (hd : 8 ≤ d) (hI : Inv s) : Ev xs L T0 106 d 99 [rf 1, it v1, it v2] s (qi fun r s1 => Ev xs L T0 106 d 189 [rf 73, it v1, it v2] s1 (qi fun r2 s2 => r2 = r ∧ Inv s2)) := by
  obtain ⟨w, t, n, x0, hw, hE⟩ := hI.wk
  obtain ⟨K, A, B, m, hv⟩ := hI.1.mvs
  have ht := hw.1.2.1.1
  have hn := hw.1.1.2
  have e4 : s 68 4 = (m : Nat) := hv.1.1
  have e29 : s 72 29 = (m : Nat) := hv.1.2.1
  have bad5 : ¬ (0 ≤ v1 ∧ v1 ≤ (m : Nat)) → Ev xs L T0 106 d 189 [rf 73, it v1, it v2] s (qi fun r2 s2 => r2 = -5 ∧ Inv s2) := fun q => e189 (by omega) (f189_0 (i132 (by omega) (fun z => absurd (by omega) q) (fun _ => ⟨fun z => absurd rfl z, fun _ => ⟨rfl, hI⟩⟩)))
  have bad7 : (0 ≤ v1 ∧ v1 ≤ (m : Nat)) → ¬ (0 ≤ v2 ∧ v2 ≤ 3) → Ev xs L T0 106 d 189 [rf 73, it v1, it v2] s (qi fun r2 s2 => r2 = -7 ∧ Inv s2) := fun q q2 => e189 (by omega) (f189_0 (i132 (by omega) (fun z => ⟨fun _ => i132 (by omega) (fun z => absurd z q2) (fun _ => ⟨fun z => absurd rfl z, fun _ => ⟨rfl, hI⟩⟩), fun z => absurd z (by decide)⟩) (fun z => absurd (by omega) z)))
  refine e99 (by omega) (f99_0 ⟨fun z => bad5 (by omega), fun z => ⟨fun z1 => ⟨fun z2 => bad7 (by omega) (by omega), fun z2 => ⟨fun z3 => ?_, fun z3 => bad7 (by omega) (by omega)⟩⟩, fun z1 => bad5 (by omega)⟩⟩)
  obtain ⟨k, rfl⟩ : ∃ k : Nat, v1 = (k : Nat) := ⟨v1.toNat, by omega⟩
  refine i122 (by omega) ht hw.2.2.2.2.2.1.2 ⟨t, ht, rfl, i34q (by omega) hw hE fun s1 h1 => ?_⟩
  have hv1 := hv.fQ h1.1
  refine i75 (by omega) hw h1 hv1 (k := k) (by omega) fun s2 k1 k2 k3 => ?_
  have hw2 := k1.1.wk hw
  have hv2 := hv1.fQ (k2.fQ ht)
  have e292 : s2 72 29 = (m : Nat) := hv2.1.2.1
  have model : ∀ r : Int, (v2 = 0 → r = trh w t n x0 K A B k) → (v2 = 1 → r = (bt (trx w t n x0 K A B k) : Nat)) → (v2 = 2 → r = ((btn (thV w (trx w t n x0 K A B k)) n : Nat) : Int)) → (v2 = 3 → r = trg w t n x0 K A B k) → Ev xs L T0 106 d 189 [rf 73, it (k : Nat), it v2] s2 (qi fun r2 s2 => r2 = r ∧ Inv s2) := by
    intro r r0 r1 r2 r3
    refine e189 (by omega) (f189_0 (i132 (by omega) (fun _ => ⟨fun _ => i132 (by omega) (fun _ => ⟨fun _ => ?_, fun z => absurd z (by decide)⟩) (fun z => absurd (by omega) z), fun z => absurd z (by decide)⟩) (fun z => absurd (by omega) z)))
    refine i188 (by omega) hw.1 hw2.2.2.2.1 hw.2.2.1 hw2.2.2.2.2.1 hv2 (by omega) fun s4 s5 g1 g2 g3 g4 g5 g6 => ?_
    have fin : ∀ v : Int, v = r → Fr xs L T0 106 (d - 1) 189 71 [some (rf 73), some (it (k : Nat)), some (it v2), none] [it v] s5 (qi fun r2 s2 => r2 = r ∧ Inv s2) := fun v q => f189_71 (i185d (by omega) hn g1 g2 fun s6 hs6 => ⟨q, k1.fin hI hw hs6⟩)
    refine ⟨fun y0 => ⟨fun y1 => ⟨fun y2 => fin _ (by rw [g6]; exact (r3 (by omega)).symm), fun y2 => i181 (by omega) hn g3 g4 (fin _ (r2 (by omega)).symm)⟩, fun y1 => fin _ (by rw [g4.1]; exact (r1 (by omega)).symm)⟩, fun y0 => fin _ (by rw [g5]; exact (r0 (by omega)).symm)⟩
  obtain ⟨c1, c2, c3, c4, c5, c6⟩ := k3
  refine ⟨fun y0 => ⟨fun y1 => ⟨fun y2 => model _ (fun q => absurd q (by omega)) (fun q => absurd q (by omega)) (fun q => absurd q (by omega)) (fun _ => c5), fun y2 => e41 (by omega) (f41_0 (model _ (fun q => absurd q (by omega)) (fun q => absurd q (by omega)) (fun _ => ?_) (fun q => absurd q (by omega))))⟩, fun y1 => model _ (fun q => absurd q (by omega)) (fun _ => c1.1) (fun q => absurd q (by omega)) (fun q => absurd q (by omega))⟩, fun y0 => model _ (fun _ => c3) (fun q => absurd q (by omega)) (fun q => absurd q (by omega)) (fun q => absurd q (by omega))⟩
  rw [c1.2.2.2, k1.2.1.2.1.2.2.1, btn_or hn]
  congr 1
  exact btn_cong fun p _ => by unfold thV; rw [Bool.or_comm]
/-- where -/
theorem J100 {v1 v2 : Int} (hd : 8 ≤ d) (hI : Inv s) : Ev xs L T0 106 d 100 [rf 1, it v1, it v2] s (qi fun r s1 => Ev xs L T0 106 d 190 [rf 73, it v1, it v2] s1 (qi fun r2 s2 => r2 = r ∧ Inv s2)) := by
  obtain ⟨w, t, n, x0, hw, hE⟩ := hI.wk
  obtain ⟨K, A, B, m, hv⟩ := hI.1.mvs
  have ht := hw.1.2.1.1
  have hn := hw.1.1.2
  have e4 : s 68 4 = (m : Nat) := hv.1.1
  have e29 : s 72 29 = (m : Nat) := hv.1.2.1
  have e11 : s 1 1 = (n : Nat) := hw.2.2.2.2.2.1.1
  have e703 : s 72 3 = (n : Nat) := hw.2.2.2.1.2.2.1.2
  have bad5 : ¬ (0 ≤ v1 ∧ v1 ≤ (m : Nat)) → Ev xs L T0 106 d 190 [rf 73, it v1, it v2] s (qi fun r2 s2 => r2 = -5 ∧ Inv s2) := fun q => e190 (by omega) (f190_0 (i132 (by omega) (fun z => absurd (by omega) q) (fun _ => ⟨fun _ => ⟨rfl, hI⟩, fun z => absurd rfl z⟩)))
  have badp : (0 ≤ v1 ∧ v1 ≤ (m : Nat)) → ¬ (0 ≤ v2 ∧ v2 < (n : Nat)) → Ev xs L T0 106 d 190 [rf 73, it v1, it v2] s (qi fun r2 s2 => r2 = -5 ∧ Inv s2) := fun q q2 => e190 (by omega) (f190_0 (i132 (by omega) (fun z => ⟨fun z => absurd z (by decide), fun _ => i135 (by omega) (by omega) (fun z => absurd (by omega) q2) (fun _ => ⟨fun z => absurd rfl z, fun _ => ⟨rfl, hI⟩⟩)⟩) (fun z => absurd (by omega) z)))
  refine e100 (by omega) (f100_0 ⟨fun z => bad5 (by omega), fun z => ⟨fun z1 => bad5 (by omega), fun z1 => i2 (by omega) (by omega) (fun z2 => ⟨fun _ => ?_, fun y => absurd (by decide) y⟩) (fun z2 => ⟨fun y => absurd rfl y, fun _ => badp (by omega) (by omega)⟩)⟩⟩)
  obtain ⟨k, rfl⟩ : ∃ k : Nat, v1 = (k : Nat) := ⟨v1.toNat, by omega⟩
  obtain ⟨p, rfl⟩ : ∃ k : Nat, v2 = (k : Nat) := ⟨v2.toNat, by omega⟩
  refine i122 (by omega) ht hw.2.2.2.2.2.1.2 ⟨t, ht, rfl, i34q (by omega) hw hE fun s1 h1 => ?_⟩
  have hv1 := hv.fQ h1.1
  refine i75 (by omega) hw h1 hv1 (k := k) (by omega) fun s2 k1 k2 k3 => ?_
  have hw2 := k1.1.wk hw
  have hv2 := hv1.fQ (k2.fQ ht)
  have e292 : s2 72 29 = (m : Nat) := hv2.1.2.1
  have e7032 : s2 72 3 = (n : Nat) := hw2.2.2.2.1.2.2.1.2
  have hxk : okx n (trx w t n x0 K A B k) := trx_ok (m := m) hw.2.2.1 (fun i hi => (hv.2 i hi).2.2.2.2.1) k (by omega)
  obtain ⟨c1, c2, c3, c4, c5, c6⟩ := k3
  rw [c2]
  refine i44 (by omega) hw2.2.1 hw.1.1.1 hn (by omega) hxk.1 ?_
  refine e190 (by omega) (f190_0 (i132 (by omega) (fun _ => ⟨fun z => absurd z (by decide), fun _ => i135 (by omega) (by omega) (fun _ => ⟨fun _ => ?_, fun z => absurd (by decide) z⟩) (fun z => absurd (by omega) z)⟩) (fun z => absurd (by omega) z)))
  refine i188 (by omega) hw.1 hw2.2.2.2.1 hw.2.2.1 hw2.2.2.2.2.1 hv2 (by omega) fun s4 s5 g1 g2 g3 g4 g5 g6 => ⟨by omega, i185d (by omega) hn g1 g2 fun s6 hs6 => ⟨g4.2 p (by omega), k1.fin hI hw hs6⟩⟩
