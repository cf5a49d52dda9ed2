/-! THE BOUND -/
def atB (x p : Nat) : Nat := if pl x p = 4 then bt x else pl x p
def bdV (w : Pl) (D : Nat → Nat → Int) (x : Nat) : Nat → Int
  | 0 => 0
  | k + 1 => if thV w x k = true then bdV w D x k else if bdV w D x k < D (bt x) (atB x k) + D (atB x k) (w 4 k).toNat then D (bt x) (atB x k) + D (atB x k) (w 4 k).toNat else bdV w D x k
theorem atB_lt (x p : Nat) : atB x p < 4 := by
  have := bt_lt x
  have := pl_lt x p
  unfold atB
  split <;> omega
theorem bdV_rng {w : Pl} {t : Nat} {D : Nat → Nat → Int} {x n : Nat} (hD : DS w t D) (hw : ∀ p : Nat, p < n → 0 ≤ w 4 p ∧ w 4 p < 4) : ∀ k, k ≤ n → 0 ≤ bdV w D x k ∧ bdV w D x k ≤ 198 := by
  intro k
  induction k with
  | zero => intro _; simp [bdV]
  | succ k ih =>
    intro hk
    have h1 := ih (by omega)
    have h2 := (hD (bt x) (atB x k) (bt_lt x) (atB_lt x k)).1
    have h3 := (hD (atB x k) (w 4 k).toNat (atB_lt x k) (by have := hw k (by omega); omega)).1
    simp only [bdV]
    split
    · exact h1
    · split <;> omega
variable {xs : Nat → Int} {L : Nat} {d : Nat} {s : Pl}
theorem i52 {w : Pl} {t n x0 : Nat} {P : Int → Pl → Prop} (hd : 3 ≤ d) (hk : wOk w t n) (hw : sW w s) (hl : Lrn w t n s) (h1 : s 1 1 = (n : Nat)) (hb : s 1 0 = (bt x0 : Nat)) (hp : ∀ r : Nat, r < n → s 2 r = (pl x0 r : Nat)) (h : ∀ (D : Nat → Nat → Int) (s1 : Pl), DS w t D → (∀ c, c ≠ 60 → s1 c = s c) → P (bdV w D x0 n) s1) : Ev xs L T0 106 d 52 [rf 58] s (qi P) := by
  have hn := hk.1.2
  have hto : ∀ p : Nat, p < n → 0 ≤ w 4 p ∧ w 4 p < 4 := fun p hp => (hk.2.2.1 p hp).2.1
  have hbx := bt_lt x0
  refine e52 (by omega) (f52_0 (i51 (by omega) hl fun s1 D hD htb hc => ?_))
  have l : ∀ (j k : Nat) (v1 v2 : Int) (w3 w4 : Option AV), k + j = n → v2 = (k : Nat) → v1 = bdV w D x0 k → Fr xs L T0 106 (d - 1) 52 8 [some (rf 58), some (it v1), some (it v2), w3, w4] [] s1 (qi P) := by
    intro j
    have e11 : s1 1 1 = (n : Nat) := by rw [hc 1 (by decide)]; exact h1
    induction j with
    | zero =>
      intro k v1 v2 w3 w4 hk9 h2 h3
      have e : k = n := by omega
      subst e
      exact f52_8 ⟨fun _ => by rw [h3]; exact h D s1 hD hc, fun z => absurd (by omega) z⟩
    | succ j ih =>
      intro k v1 v2 w3 w4 hk9 h2 h3
      subst h2
      have zk : ∀ _ : Unit, zw ((k : Nat) + 1) = ((k + 1 : Nat) : Int) := fun _ => by rw [zw_id (by omega) (by omega)]; omega
      have ep : s1 2 (k : Nat) = (pl x0 k : Nat) := by rw [hc 2 (by decide)]; exact hp k (by omega)
      have e10 : s1 1 0 = (bt x0 : Nat) := by rw [hc 1 (by decide)]; exact hb
      have e4 : s1 4 (k : Nat) = w 4 (k : Nat) := by rw [hc 4 (by decide), hw 4 rfl]
      have ha := atB_lt x0 k
      have ht4 := hto k (by omega)
      obtain ⟨o, ho⟩ : ∃ o : Nat, w 4 (k : Nat) = (o : Nat) := ⟨(w 4 (k : Nat)).toNat, by omega⟩
      have hb9 := bdV_rng (x := x0) hD hto k (by omega)
      have d1 := (hD (bt x0) (atB x0 k) hbx ha).1
      have d2 := (hD (atB x0 k) o ha (by omega)).1
      have zi : ∀ a b : Nat, a < 4 → b < 4 → zw (zw (4 * (a : Nat)) + (b : Nat)) = 4 * (a : Nat) + (b : Nat) := fun a b ha hb => by rw [zw_id (x := 4 * ((a : Nat) : Int)) (by omega) (by omega), zw_id (by omega) (by omega)]
      have key : zand (zshr (s1 57 8) (k : Nat)) 1 = 0 ↔ ¬ uA (w 3 k) 3 = true := by
        rw [hc 57 (by decide), hl.2.1.2.2.1, tbn hn (by omega)]
        by_cases a : uA (w 3 k) 3 = true
        · rw [if_pos (by simp [a]; omega)]; simp [a]
        · rw [if_neg (by simp [a])]; simp [a]
      have nx : ∀ (r : Int) (w5 w6 : Option AV), r = bdV w D x0 (k + 1) → Fr xs L T0 106 (d - 1) 52 134 [some (rf 58), some (it r), some (it (k : Nat)), some (it (atB x0 k : Nat)), some (it 1)] [] s1 (qi P) := fun r w5 w6 hr => f52_134 (by
        rw [zk ()]
        exact ih (k + 1) _ _ _ _ (by omega) rfl hr)
      have nx0 : ∀ (r : Int), r = bdV w D x0 (k + 1) → Fr xs L T0 106 (d - 1) 52 134 [some (rf 58), some (it r), some (it (k : Nat)), some (it (atB x0 k : Nat)), some (it 0)] [] s1 (qi P) := fun r hr => f52_134 (by
        rw [zk ()]
        exact ih (k + 1) _ _ _ _ (by omega) rfl hr)
      have thr : ∀ vs : Int, (vs = 1 ∧ thV w x0 k = true) ∨ (vs = 0 ∧ ¬ thV w x0 k = true) → ∀ w4 : Option AV, Fr xs L T0 106 (d - 1) 52 95 [some (rf 58), some (it v1), some (it (k : Nat)), some (it (atB x0 k : Nat)), w4] [it vs] s1 (qi P) := by
        intro vs hvs w4
        refine f52_95 ?_
        rw [e10]
        rcases hvs with ⟨rfl, hth⟩ | ⟨rfl, hth⟩
        · refine ⟨fun _ => nx _ none none ?_, fun z => absurd (by decide) z⟩
          rw [h3]; simp only [bdV]; rw [if_pos hth]
        · refine ⟨fun z => absurd rfl z, fun _ => i245 (by omega) hbx ha ⟨by omega, ?_⟩⟩
          rw [e4, ho, htb _ _ hbx ha]
          refine i245 (by omega) ha (by omega) ?_
          rw [htb _ _ ha (by omega)]
          refine i230 (by omega) (nx0 _ ?_)
          rw [h3, zw_id (by omega) (by omega)]
          simp only [bdV]
          rw [if_neg hth, ho, Int.toNat_natCast]
      have go : ∀ vs : Int, vs = (atB x0 k : Nat) → Fr xs L T0 106 (d - 1) 52 57 [some (rf 58), some (it v1), some (it (k : Nat)), w3, w4] [it vs] s1 (qi P) := by
        intro vs hvs
        subst hvs
        refine f52_57 ?_
        rw [key, ep, e4]
        have hth : thV w x0 k = true ↔ (uA (w 3 k) 3 = true ∨ ((pl x0 k : Nat) : Int) = w 4 (k : Nat)) := by unfold thV; simp
        refine ⟨fun z => f52_90 (thr 1 (Or.inl ⟨rfl, hth.mpr (Or.inl (Classical.not_not.mp z))⟩) _), fun z => ⟨by omega, by omega, fun y => thr 0 (Or.inr ⟨rfl, fun q => ?_⟩) _, fun y => f52_90 (thr 1 (Or.inl ⟨rfl, hth.mpr (Or.inr (Classical.not_not.mp y))⟩) _)⟩⟩
        rcases hth.mp q with g | g
        · exact (Classical.not_not.mp z) g
        · exact y g
      refine f52_8 ⟨fun z => absurd z (by omega), fun _ => ⟨fun z => absurd z (by omega), fun _ => ⟨by omega, ?_⟩⟩⟩
      rw [ep, e10]
      refine ⟨fun z => ⟨by omega, go _ ?_⟩, fun z => go _ ?_⟩
      · unfold atB; rw [if_neg (by omega)]
      · unfold atB; rw [if_pos (by omega)]
  exact l n 0 _ _ _ _ (by omega) rfl rfl
theorem i204 {w : Pl} {t n x0 : Nat} {D : Nat → Nat → Int} {P : Int → Pl → Prop} (hd : 5 ≤ d) (hk : wOk w t n) (hm : Mst w t n s) (hx : mx n x0 s) (hD : DS w t D) (h : ∀ s1 : Pl, fWy s s1 → P (bdV w D x0 n) s1) : Ev xs L T0 106 d 204 [rf 73] s (qi P) := by
  have hn := hk.1.2
  have hto : ∀ p : Nat, p < n → 0 ≤ w 4 p ∧ w 4 p < 4 := fun p hp => (hk.2.2.1 p hp).2.1
  have hbx := bt_lt x0
  have mxf : ∀ s1, fWy s s1 → mx n x0 s1 := fun s1 hf => ⟨by rw [hf 72 2 (by decide) (by decide) (by decide)]; exact hx.1, fun r hr => by rw [hf 75 _ (by decide) (by decide) (by decide)]; exact hx.2 r hr⟩
  have l : ∀ (j k : Nat) (s1 : Pl) (v1 v2 : Int) (w3 w4 : Option AV), k + j = n → v2 = (k : Nat) → v1 = bdV w D x0 k → fWy s s1 → Fr xs L T0 106 (d - 1) 204 4 [some (rf 73), some (it v1), some (it v2), w3, w4] [] s1 (qi P) := by
    intro j
    induction j with
    | zero =>
      intro k s1 v1 v2 w3 w4 hk9 h2 h3 hf
      have e : k = n := by omega
      subst e
      exact f204_4 ⟨fun _ => by rw [h3]; exact h s1 hf, fun z => absurd (by rw [(hf.mst hm).2.2.1.2]; omega) z⟩
    | succ j ih =>
      intro k s1 v1 v2 w3 w4 hk9 h2 h3 hf
      subst h2
      have zk : ∀ _ : Unit, zw ((k : Nat) + 1) = ((k + 1 : Nat) : Int) := fun _ => by rw [zw_id (by omega) (by omega)]; omega
      have hm1 := hf.mst hm
      have hx1 := mxf s1 hf
      have ha := atB_lt x0 k
      have ht4 := hto k (by omega)
      obtain ⟨o, ho⟩ : ∃ o : Nat, w 4 (k : Nat) = (o : Nat) := ⟨(w 4 (k : Nat)).toNat, by omega⟩
      have hb9 := bdV_rng (x := x0) hD hto k (by omega)
      have d1 := (hD (bt x0) (atB x0 k) hbx ha).1
      have d2 := (hD (atB x0 k) o ha (by omega)).1
      have nx : ∀ (s2 : Pl) (r : Int) (w5 w6 : Option AV), fWy s s2 → r = bdV w D x0 (k + 1) → Fr xs L T0 106 (d - 1) 204 79 [some (rf 73), some (it r), some (it (k : Nat)), w5, w6] [] s2 (qi P) := fun s2 r w5 w6 hf2 hr => f204_79 (by
        rw [zk ()]
        exact ih (k + 1) s2 _ _ _ _ (by omega) rfl hr hf2)
      have go : ∀ vs : Int, ¬ thV w x0 k = true → vs = (atB x0 k : Nat) → Fr xs L T0 106 (d - 1) 204 46 [some (rf 73), some (it v1), some (it (k : Nat)), w3, w4] [it vs] s1 (qi P) := by
        intro vs hth hvs
        subst hvs
        refine f204_46 ?_
        rw [hx1.1]
        refine i203 (by omega) hk hm1 hD hbx ha fun s2 hs2 => ⟨by omega, ?_⟩
        have hf2 := hf.trans hs2
        have hm2 := hf2.mst hm
        rw [(hm2.2.2.2.1 k (by omega)).2.1, ho]
        refine i203 (by omega) hk hm2 hD ha (by omega) fun s3 hs3 => ?_
        have hf3 := hf2.trans hs3
        rw [zw_id (by omega) (by omega)]
        refine ⟨fun z => nx s3 _ _ _ hf3 ?_, fun z => nx s3 _ _ _ hf3 ?_⟩
        · rw [h3]; simp only [bdV]; rw [if_neg hth, ho, Int.toNat_natCast, if_neg (by omega)]
        · simp only [bdV]; rw [if_neg hth, ho, Int.toNat_natCast, if_pos (by omega)]
      refine f204_4 ⟨fun z => absurd z (by rw [hm1.2.2.1.2]; omega), fun _ => i180 (by omega) hn hm1 hx1 (by omega) (fun hth => ⟨fun z => absurd z (by decide), fun _ => nx s1 _ _ _ hf ?_⟩) (fun hth => ⟨fun _ => ⟨by omega, ?_⟩, fun z => absurd rfl z⟩)⟩
      · rw [h3]; simp only [bdV]; rw [if_pos hth]
      · rw [hx1.2 k (by omega), hx1.1]
        refine ⟨fun z => ⟨by omega, go _ hth ?_⟩, fun z => go _ hth ?_⟩
        · unfold atB; rw [if_neg (by omega)]
        · unfold atB; rw [if_pos (by omega)]
  exact e204 (by omega) (f204_0 (l n 0 s _ _ _ _ (by omega) rfl rfl (fun _ _ _ _ _ => rfl)))
theorem fWy.fM {s s1 : Pl} (h : fWy s s1) : fM s s1 := ⟨fun c hc => funext fun i => h c i (by omega) (by omega) (by omega), fun c i a _ => h c i (by unfold scr at a; omega) (by unfold scr at a; omega) (by unfold scr at a; omega)⟩
/-- behind learn what was explored is so still -/
theorem fLn.sol {w s s1 : Pl} {t n m x0 Lm : Nat} (ht : t < 6) (h : fLn t s s1) (v : SolC w t n m x0 Lm s) : SolC w t n m x0 Lm s1 :=
  v.cong (h 64 4 (by decide) (by omega) (by decide) (by decide) (by decide)) (h 64 5 (by decide) (by omega) (by decide) (by decide) (by decide)) (funext fun i => h 66 i (by decide) (by omega) (by decide) (by decide) (fun e => absurd e (by decide))) (funext fun i => h 67 i (by decide) (by omega) (by decide) (by decide) (fun e => absurd e (by decide)))
theorem c58.fQ {s s1 : Pl} (h : ∀ c, c ≠ 60 → s1 c = s c) : fQ s s1 := fun c i a _ => by rw [h c (by unfold scr at a; omega)]
theorem Lrn.c58 {w s s1 : Pl} {t n : Nat} (h : ∀ c, c ≠ 60 → s1 c = s c) (v : Lrn w t n s) : Lrn w t n s1 := by
  unfold Lrn at *
  rw [h 57 (by decide), h 59 (by decide), h 61 (by decide)]
  exact v
theorem SolC.c58 {w s s1 : Pl} {t n m x0 Lm : Nat} (h : ∀ c, c ≠ 60 → s1 c = s c) (v : SolC w t n m x0 Lm s) : SolC w t n m x0 Lm s1 :=
  v.cong (by rw [h 64 (by decide)]) (by rw [h 64 (by decide)]) (h 66 (by decide)) (h 67 (by decide))
/-- bound -/
theorem J105 (hd : 10 ≤ d) (hI : Inv s) : Ev xs L T0 106 d 105 [rf 1] s (qi fun r s1 => Ev xs L T0 106 d 205 [rf 73] s1 (qi fun r2 s2 => r2 = r ∧ Inv s2)) := by
  obtain ⟨w, t, n, x0, hw, hE⟩ := hI.wk
  have hn := hw.1.1.2
  have ht := hw.1.2.1.1
  refine e105 (by omega) (f105_0 (i122 (by omega) ht hw.2.2.2.2.2.1.2 ⟨t, ht, rfl, i34 (by omega) hw.1 hw.2.1 fun s1 k1 k2 => ?_⟩))
  have f1 := k2.fQ ht
  have hw1 := f1.wk hw
  have e09 : s1 0 9 = s 0 9 := k2 0 9 (by decide) (by omega) (by decide) (by decide) (fun e => absurd e (by decide))
  refine i52 (by omega) hw1.1 hw1.2.1 k1 hw1.2.2.2.2.2.1.1 hw1.2.2.2.2.2.2.1 hw1.2.2.2.2.2.2.2.1 fun D s2 hD hc => ?_
  have f2 := f1.trans (c58.fQ hc)
  have hw2 := f2.wk hw
  refine e205 (by omega) (f205_0 (i204 (by omega) hw2.1 hw2.2.2.2.1 hw2.2.2.2.2.1 hD fun s3 hs3 => ⟨rfl, hw.fin hI.1 f2 (by rw [hc 0 (by decide), e09]; exact hI.h9) (fun q => ?_) hs3.fM⟩))
  rw [hc 0 (by decide), e09] at q
  exact ⟨k1.c58 hc, (k2.sol ht (hE q).2).c58 hc⟩
