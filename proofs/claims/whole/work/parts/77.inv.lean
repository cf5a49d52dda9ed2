/-! what holds between the calls, whole -/
def wlet : List Int := [111, 102, 102, 32, 111, 110, 32, 97, 116, 32, 98, 97, 115, 101, 32, 104, 111, 117, 114, 32, 98, 121, 32, 109, 97, 121, 32, 114, 111, 119, 32, 103, 97, 105, 110, 32, 111, 114, 32, 97, 110, 100, 32, 110, 111, 116, 32]
def wmea : List Int := [0, 1, 2, 3, 4, 5, 10, 11, 12, 13, 14, 15]
def vW (s : Pl) : Prop := (∀ i : Nat, i < 47 → s 87 ((i : Nat) : Int) = wlet.getD i 0) ∧ (∀ i : Nat, i < 12 → s 88 ((i : Nat) : Int) = wmea.getD i 0) ∧ (∀ u v : Nat, u < 4 → v < 4 → s 9 (4 * u + v) = s 9 (4 * v + u)) ∧ (s 0 2 ≠ 0 → ∀ u v : Nat, u < 4 → v < 4 → s 18 (4 * u + v) = s 18 (4 * v + u)) ∧ ∀ q : Nat, q < 4 → ∀ i : Int, 0 ≤ i → i < 40 → -2147483648 ≤ s (46 + 2 * q) i ∧ s (46 + 2 * q) i < 2147483648
/-- never more than three ABOARD -/
def vB (s : Pl) : Prop := cnt (fun p => decide (s 2 p = 4)) (s 1 1).toNat ≤ 3 ∧ (s 0 2 ≠ 0 → cnt (fun p => decide (s 11 p = 4)) (s 10 1).toNat ≤ 3)
theorem cB {s s1 : Pl} (h : ∀ c i, c = 2 ∨ c = 11 ∨ c = 1 ∧ i = 1 ∨ c = 10 ∧ i = 1 ∨ c = 0 ∧ i = 2 → s1 c i = s c i) (v : vB s) : vB s1 := by
  unfold vB
  rw [h 1 1 (by simp), h 10 1 (by simp), h 0 2 (by simp), cnt_cong (f := fun p => decide (s1 2 p = 4)) (g := fun p => decide (s 2 p = 4)) (fun p _ => by rw [h 2 _ (by simp)]), cnt_cong (f := fun p => decide (s1 11 p = 4)) (g := fun p => decide (s 11 p = 4)) (fun p _ => by rw [h 11 _ (by simp)])]
  exact v
def vHb (s : Pl) : Prop := (∀ i : Int, 0 ≤ i → i < 16 → 0 ≤ s 9 i ∧ s 9 i ≤ 9) ∧ (s 0 2 ≠ 0 → ∀ i : Int, 0 ≤ i → i < 16 → 0 ≤ s 18 i ∧ s 18 i ≤ 9) ∧ (s 0 2 = 0 ∨ s 0 2 = 1) ∧ (s 0 9 = 0 ∨ s 0 9 = 1)
def JJ (s : Pl) : Prop := vL s ∧ vH s ∧ vHb s ∧ vP s ∧ vM s ∧ vT s ∧ vK s ∧ vS s ∧ vX s ∧ vW s ∧ vB s
/-- what may change without a word -/
def scr (c : Nat) (i : Int) : Prop := (24 ≤ c ∧ c ≤ 44 ∧ c % 4 = 0) ∨ (57 ≤ c ∧ c ≤ 67) ∨ (c = 68 ∧ 5 ≤ i) ∨ c = 85 ∨ c = 86 ∨ (92 ≤ c ∧ c ≤ 98) ∨ c = 105 ∨ (c = 72 ∧ 34 ≤ i ∧ i ≤ 44)
def kQ (s s1 : Pl) : Prop := ∀ c i, ¬ scr c i → s1 c i = s c i
theorem kQ.refl (s : Pl) : kQ s s := fun _ _ _ => rfl
theorem kQ.trans {s s1 s2 : Pl} (h : kQ s s1) (h2 : kQ s1 s2) : kQ s s2 := fun c i a => by rw [h2 c i a, h c i a]
theorem cW {s s1 : Pl} (h : ∀ c i, c = 87 ∨ c = 88 ∨ c = 9 ∨ c = 18 ∨ c = 0 ∧ i = 2 ∨ 46 ≤ c ∧ c ≤ 52 → s1 c i = s c i) (v : vW s) : vW s1 := by
  refine ⟨fun i hi => by rw [h 87 _ (by simp)]; exact v.1 i hi, fun i hi => by rw [h 88 _ (by simp)]; exact v.2.1 i hi, fun a b ha hb => by rw [h 9 _ (by simp), h 9 _ (by simp)]; exact v.2.2.1 a b ha hb, fun q a b ha hb => ?_, fun q hq i h0 h1 => ?_⟩
  · rw [h 0 2 (by simp)] at q
    rw [h 18 _ (by simp), h 18 _ (by simp)]
    exact v.2.2.2.1 q a b ha hb
  · rw [h (46 + 2 * q) i (by omega)]
    exact v.2.2.2.2 q hq i h0 h1
theorem cHb {s s1 : Pl} (h : ∀ c i, c = 9 ∨ c = 18 ∨ c = 0 ∧ (i = 2 ∨ i = 9) → s1 c i = s c i) (v : vHb s) : vHb s1 := by
  unfold vHb
  rw [h 0 2 (by simp), h 0 9 (by simp)]
  exact ⟨fun i a b => by rw [h 9 i (by simp)]; exact v.1 i a b, fun q i a b => by rw [h 18 i (by simp)]; exact v.2.1 q i a b, v.2.2.1, v.2.2.2⟩
theorem JJ.kQ {s s1 : Pl} (h : kQ s s1) (v : JJ s) : JJ s1 := by
  obtain ⟨v1, v2, v3, v4, v5, v6, v7, v8, v9, v10, v11⟩ := v
  have h4 : s 0 4 ≤ 6 := v1.2.2.2.2.2
  refine ⟨cL (fun c i m => h c i ?_) v1, cH (fun c i m => h c i ?_) v2, cHb (fun c i m => h c i ?_) v3, cP (fun c i m => h c i ?_) v4, cM (fun c i m => h c i ?_) v5, cT (fun c i m => h c i ?_) v6, cK (fun c i m => h c i ?_) v7, cS (fun c i m => h c i ?_) v8, cX h4 (fun c i m => h c i ?_) v9, cW (fun c i m => h c i ?_) v10, cB (fun c i m => h c i ?_) v11⟩
  · unfold mL at m; unfold scr; omega
  · unfold mH at m; unfold scr; omega
  · unfold scr; omega
  · unfold mP at m; unfold scr; omega
  · unfold mM at m; unfold scr; omega
  · unfold mT at m; unfold scr; omega
  · unfold mK at m; unfold scr; omega
  · unfold mS at m; unfold scr; omega
  · unfold mX at m; unfold scr; omega
  · unfold scr; omega
  · unfold scr; omega
def stV (s : Pl) : Nat := enc (s 1 0).toNat (fun r => if ((r : Nat) : Int) < s 1 1 then (s 2 r).toNat else 0)
def vE (s : Pl) : Prop := ∃ w, sW w s ∧ (s 0 9 ≠ 0 → Lrn w (s 1 2).toNat (s 1 1).toNat s ∧ SolC w (s 1 2).toNat (s 1 1).toNat 0 (stV s) 400 s)
def Inv (s : Pl) : Prop := JJ s ∧ vE s
/-- the names of it all, for a question's sake -/
def Wk (w : Pl) (t n x0 : Nat) (s : Pl) : Prop := wOk w t n ∧ sW w s ∧ okx n x0 ∧ Mst w t n s ∧ mx n x0 s ∧ (s 1 1 = (n : Nat) ∧ s 1 2 = (t : Nat)) ∧ s 1 0 = (bt x0 : Nat) ∧ (∀ r : Nat, r < n → s 2 r = (pl x0 r : Nat)) ∧ stV s = x0
theorem Inv.wk {s : Pl} (h : Inv s) : ∃ w t n x0, Wk w t n x0 s ∧ (s 0 9 ≠ 0 → Lrn w t n s ∧ SolC w t n 0 x0 400 s) := by
  obtain ⟨⟨v1, v2, v3, v4, v5, v6, v7, v8, v9, v10⟩, w, hw, hE⟩ := h
  obtain ⟨⟨b1, b2, b3⟩, ⟨p1, p2, p3⟩, ⟨l1, l2, l3⟩, t1, t2, t3⟩ := v1
  obtain ⟨n, hn⟩ : ∃ n : Nat, s 1 1 = (n : Nat) := ⟨(s 1 1).toNat, by omega⟩
  obtain ⟨t, ht⟩ : ∃ t : Nat, s 1 2 = (t : Nat) := ⟨(s 1 2).toNat, by omega⟩
  obtain ⟨b, hb⟩ : ∃ b : Nat, s 1 0 = (b : Nat) := ⟨(s 1 0).toNat, by omega⟩
  have hb4 : b < 4 := by omega
  have hn6 : n ≤ 6 := by omega
  have en : (s 1 1).toNat = n := by omega
  have et : (s 1 2).toNat = t := by omega
  rw [en, et] at hE
  have hpl : ∀ r : Nat, r < n → 0 ≤ s 2 r ∧ s 2 r ≤ 4 := fun r hr => (v4 r (by omega) (by omega)).1.2
  have hf : ∀ r, r < 6 → (fun r : Nat => if ((r : Nat) : Int) < s 1 1 then (s 2 r).toNat else 0) r < 5 := by
    intro r hr
    show (if ((r : Nat) : Int) < s 1 1 then (s 2 r).toNat else 0) < 5
    by_cases e : r < n
    · rw [if_pos (by omega)]
      have := hpl r e
      omega
    · rw [if_neg (by omega)]; decide
  have hbt : bt (stV s) = b := by
    unfold stV
    rw [bt_enc (by omega)]; omega
  have hplx : ∀ r, r < 6 → pl (stV s) r = if ((r : Nat) : Int) < s 1 1 then (s 2 r).toNat else 0 := fun r hr => pl_enc (by omega) hf hr
  have hx : okx n (stV s) := ⟨enc_lt (by omega) hf, fun r h1 h2 => by rw [hplx r h2, if_neg (by omega)]⟩
  have hcl : ∀ r : Nat, r < n → s 2 r = (pl (stV s) r : Nat) := fun r hr => by
    rw [hplx r (by omega), if_pos (by omega)]
    have := hpl r hr
    omega
  have hgd : gd (w (22 + 4 * t)) (w (23 + 4 * t)) := by
    rw [← hw _ (stc22 t (by omega)).1, ← hw _ (stc22 t (by omega)).2]
    by_cases e : t = 0
    · subst e; exact gd0 v9.1
    · exact (v9.2 t (by omega) (by omega)).1
  refine ⟨w, t, n, stV s, ⟨⟨⟨by rw [← hw 1 rfl]; exact hn, hn6⟩, ⟨by omega, hgd⟩, fun p hp => ?_, fun i h0 h1 => by rw [← hw 9 rfl]; exact v3.1 i h0 h1⟩, hw, hx, ⟨hw.lW, ⟨v9, by omega, by omega⟩, ⟨by omega, by omega⟩, fun p hp => ?_, fun i h0 h1 => by rw [← hw 9 rfl]; exact v2 i h0 h1⟩, ⟨by rw [hbt]; omega, fun r hr => ?_⟩, ⟨hn, ht⟩, by rw [hbt]; exact hb, hcl, rfl⟩, hE⟩
  · obtain ⟨q1, q2, q3, q4, q5, q6, q7⟩ := v4 p (by omega) (by omega)
    rw [← hw 3 rfl, ← hw 4 rfl, ← hw 6 rfl, ← hw 7 rfl, ← hw 8 rfl]
    exact ⟨q2.2, q3.2, q5.2, q6.2, q7.2⟩
  · obtain ⟨q1, q2, q3, q4, q5, q6, q7⟩ := v4 p (by omega) (by omega)
    rw [← hw 3 rfl, ← hw 4 rfl, ← hw 5 rfl, ← hw 6 rfl, ← hw 7 rfl, ← hw 8 rfl]
    exact ⟨q2.1, q3.1, q4.1, q5.1, q6.1, q7.1⟩
  · rw [(v4 r (by omega) (by omega)).1.1]
    exact hcl r hr
theorem kQ.cell {s s1 : Pl} (h : kQ s s1) {c : Nat} (hc : ∀ i, ¬ scr c i) : s1 c = s c := funext fun i => h c i (hc i)
theorem scr_stc {c : Nat} (h : stc c = true) (i : Int) : ¬ scr c i := by
  have := stc_out h
  unfold scr
  omega
theorem stV_kQ {s s1 : Pl} (h : kQ s s1) : stV s1 = stV s := by
  unfold stV
  rw [h.cell (c := 1) (scr_stc rfl), h.cell (c := 2) (scr_stc rfl)]
theorem sW.kQ {w s s1 : Pl} (hw : sW w s) (h : kQ s s1) : sW w s1 := fun c hc => by rw [h.cell (scr_stc hc)]; exact hw c hc
theorem Wk.inv {w s s1 : Pl} {t n x0 : Nat} (hj : JJ s) (hw : Wk w t n x0 s) (h : ∀ c i, ¬ scr c i → ¬ (c = 0 ∧ i = 9) → s1 c i = s c i) (h9 : s1 0 9 = 0 ∨ s1 0 9 = 1) (he : s1 0 9 ≠ 0 → Lrn w t n s1 ∧ SolC w t n 0 x0 400 s1) : Inv s1 := by
  have hq : kQ s (zup s1 0 9 (s 0 9)) := fun c i a => by
    rw [zg]
    by_cases e : c = 0 ∧ i = 9
    · rw [if_pos e, e.1, e.2]
    · rw [if_neg e]; exact h c i a e
  have hj2 := hj.kQ hq
  have ec : ∀ c, c ≠ 0 → (zup s1 0 9 (s 0 9)) c = s1 c := fun c hc => zune _ _ _ hc
  have e0 : ∀ i, i ≠ 9 → (zup s1 0 9 (s 0 9)) 0 i = s1 0 i := fun i hi => by rw [zg, if_neg (fun q => hi q.2)]
  have hsame : ∀ c i, ¬ (c = 0 ∧ i = 9) → s1 c i = (zup s1 0 9 (s 0 9)) c i := fun c i hc => by rw [zg, if_neg hc]
  obtain ⟨v1, v2, v3, v4, v5, v6, v7, v8, v9, v10, v11⟩ := hj2
  have h4 := v1.2.2.2.2.2
  refine ⟨⟨cL (fun c i m => hsame c i ?_) v1, cH (fun c i m => hsame c i ?_) v2, ?_, cP (fun c i m => hsame c i ?_) v4, cM (fun c i m => hsame c i ?_) v5, cT (fun c i m => hsame c i ?_) v6, cK (fun c i m => hsame c i ?_) v7, cS (fun c i m => hsame c i ?_) v8, cX h4 (fun c i m => hsame c i ?_) v9, cW (fun c i m => hsame c i ?_) v10, cB (fun c i m => hsame c i ?_) v11⟩, w, ?_, ?_⟩
  · unfold mL at m; omega
  · unfold mH at m; omega
  · refine ⟨?_, ?_, ?_, h9⟩
    · have := v3.1; rw [ec 9 (by decide)] at this; exact this
    · have := v3.2.1; rw [ec 18 (by decide), e0 2 (by decide)] at this; exact this
    · have := v3.2.2.1; rw [e0 2 (by decide)] at this; exact this
  · unfold mP at m; omega
  · unfold mM at m; omega
  · unfold mT at m; omega
  · unfold mK at m; omega
  · unfold mS at m; omega
  · unfold mX at m; omega
  · omega
  · omega
  · intro c hc
    have := stc_out hc
    rw [← hw.2.1 c hc]
    exact funext fun i => h c i (scr_stc hc i) (by omega)
  · intro q
    have hk : kQ s (zup s1 0 9 (s 0 9)) := hq
    have e1 : s1 1 = s 1 := by rw [← ec 1 (by decide)]; exact hk.cell (scr_stc rfl)
    have e2 : s1 2 = s 2 := by rw [← ec 2 (by decide)]; exact hk.cell (scr_stc rfl)
    have es : stV s1 = x0 := by
      rw [← hw.2.2.2.2.2.2.2.2]
      unfold stV
      rw [e1, e2]
    rw [es, e1, hw.2.2.2.2.2.1.1, hw.2.2.2.2.2.1.2]
    simpa using he q
variable {xs : Nat → Int} {L : Nat} {d : Nat} {s : Pl}
theorem i122 {t : Nat} {P : Nat → Pl → Prop} (hd : 1 ≤ d) (ht : t < 6) (h1 : s 1 2 = (t : Nat)) (h : P (21 + 4 * t + 1) s) : Ev xs L T0 106 d 122 [rf 1] s (qr P) := by
  refine e122 hd (f122_0 ?_)
  rw [h1]
  refine ⟨fun z => absurd z (by omega), fun _ => ⟨fun z => absurd z (by omega), fun _ => ⟨by omega, fun tq htq _ => ?_⟩⟩⟩
  rw [show tq = t from by omega]
  exact h
def esm (f : Nat → Nat) : Nat → Nat
  | 0 => 0
  | k + 1 => esm f k + f k * stp6 k
theorem enc_esm (b : Nat) (f : Nat → Nat) : enc b f = b + esm f 6 := by
  simp only [enc, esm, stp6, Nat.reducePow, Nat.reduceMul]
  omega
theorem esm_zero {f : Nat → Nat} {n : Nat} (h : ∀ r, n ≤ r → r < 6 → f r = 0) : ∀ j, n + j ≤ 6 → esm f (n + j) = esm f n := by
  intro j
  induction j with
  | zero => intro _; rfl
  | succ j ih =>
    intro hj
    have e : n + (j + 1) = (n + j) + 1 := by omega
    rw [e]
    simp only [esm]
    rw [ih (by omega), h (n + j) (by omega) (by omega)]
    omega
theorem esm_le {f : Nat → Nat} (hf : ∀ r, f r < 5) : ∀ k, k ≤ 6 → esm f k < 62500 := by
  intro k hk
  have h : ∀ k, k ≤ 6 → esm f k + 4 ≤ stp6 k := by
    intro k
    induction k with
    | zero => intro _; simp [esm, stp6]
    | succ k ih =>
      intro hk
      have := ih (by omega)
      have h5 := hf k
      have e5 : stp6 (k + 1) = 5 * stp6 k := by unfold stp6; rw [Nat.pow_succ]; omega
      simp only [esm]
      rw [e5]
      have : f k * stp6 k ≤ 4 * stp6 k := Nat.mul_le_mul_right _ (by omega)
      omega
  have h6 : stp6 k ≤ 62500 := by
    have : k = 0 ∨ k = 1 ∨ k = 2 ∨ k = 3 ∨ k = 4 ∨ k = 5 ∨ k = 6 := by omega
    rcases this with rfl | rfl | rfl | rfl | rfl | rfl | rfl <;> decide
  have := h k hk
  omega
theorem i8 {n x0 : Nat} {P : Int → Pl → Prop} (hd : 1 ≤ d) (hn : n ≤ 6) (h1 : s 1 1 = (n : Nat)) (hb : s 1 0 = (bt x0 : Nat)) (hp : ∀ r : Nat, r < n → s 2 r = (pl x0 r : Nat)) (hx : okx n x0) (h : P (x0 : Nat) s) : Ev xs L T0 106 d 8 [rf 2] s (qi P) := by
  have hfin : x0 = bt x0 + esm (pl x0) n := by
    have e := enc_pl hx.1
    rw [enc_esm] at e
    have e2 := esm_zero (f := pl x0) hx.2 (6 - n) (by omega)
    rw [show n + (6 - n) = 6 from by omega] at e2
    omega
  have hbt := bt_lt x0
  have l : ∀ (j k : Nat) (v1 v2 : Int), k + j = n → v2 = (k : Nat) → v1 = ((bt x0 + esm (pl x0) k : Nat) : Int) → Fr xs L T0 106 (d - 1) 8 7 [some (rf 2), some (it v1), some (it v2)] [] s (qi P) := by
    intro j
    induction j with
    | zero =>
      intro k v1 v2 hk h2 h3
      have e : k = n := by omega
      subst e
      refine f8_7 ⟨fun _ => ?_, fun z => absurd (by omega) z⟩
      rw [h3, ← hfin]
      exact h
    | succ j ih =>
      intro k v1 v2 hk h2 h3
      subst h2
      refine f8_7 ⟨fun z => absurd z (by omega), fun _ => ⟨fun z => absurd z (by omega), fun _ => ⟨by omega, by omega, ?_⟩⟩⟩
      rw [hp k (by omega), stp6_giv k (by omega), h3]
      have hp5 := pl_lt x0 k
      have q1 := esm_le (f := pl x0) (fun r => pl_lt x0 r) (k + 1) (by omega)
      have e1 : esm (pl x0) (k + 1) = esm (pl x0) k + pl x0 k * stp6 k := rfl
      have e2 : ((pl x0 k : Nat) : Int) * ((stp6 k : Nat) : Int) = ((pl x0 k * stp6 k : Nat) : Int) := by rw [Int.natCast_mul]
      rw [e2]
      generalize pl x0 k * stp6 k = m at e1
      refine ih (k + 1) _ _ (by omega) (by rw [zw_id (by omega) (by omega)]; omega) ?_
      rw [zw_id (x := ((m : Nat) : Int)) (by omega) (by omega), zw_id (by omega) (by omega), e1]
      omega
  exact e8 hd (f8_0 (l n 0 _ _ (by omega) rfl (by rw [hb]; simp [esm])))
