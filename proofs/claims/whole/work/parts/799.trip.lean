/-! moves -/
noncomputable def swB (w : Pl) (t n x p q : Nat) : Bool := @decide (swp w t n x p q) (Classical.propDecidable _)
theorem swB_iff (w : Pl) (t n x p q : Nat) : swB w t n x p q = true ↔ swp w t n x p q := @decide_eq_true_iff _ (Classical.propDecidable _)
noncomputable def mvx (w : Pl) (t n x k a b : Nat) : Nat := if k = 2 then x else if k = 0 then rwd x a else if swB w t n x a b = true then swd x a b else x
def mvh (w : Pl) (t x k a : Nat) : Int := if k = 2 then (a : Nat) else if k = 0 then RW w t (bt x) a else 0
noncomputable def mvo (w : Pl) (t n x k a b : Nat) : Bool := if k = 2 then true else if k = 0 then decide (a ≠ bt x) else swB w t n x a b
theorem mvh_rng {w : Pl} {t x k a : Nat} (ha : a ≤ 99) : 0 ≤ mvh w t x k a ∧ mvh w t x k a ≤ 99 := by
  have := RW_rng w t (bt x) a
  unfold mvh
  split
  · omega
  · split <;> omega
theorem mvx_ok {w : Pl} {t n x k a b : Nat} (hx : okx n x) (hk : k = 0 → a < 4) : okx n (mvx w t n x k a b) := by
  unfold mvx
  by_cases h2 : k = 2
  · rw [if_pos h2]; exact hx
  · rw [if_neg h2]
    by_cases h0 : k = 0
    · rw [if_pos h0]; exact rwd_ok hx (hk h0)
    · rw [if_neg h0]
      by_cases hs : swB w t n x a b = true
      · rw [if_pos hs]
        have := (swB_iff _ _ _ _ _ _).mp hs
        exact swd_ok hx this.1.1 this.1.2
      · rw [if_neg hs]; exact hx
noncomputable def trx (w : Pl) (t n x0 : Nat) (K A B : Nat → Nat) : Nat → Nat
  | 0 => x0
  | i + 1 => mvx w t n (trx w t n x0 K A B i) (K i) (A i) (B i)
noncomputable def trh (w : Pl) (t n x0 : Nat) (K A B : Nat → Nat) : Nat → Int
  | 0 => 0
  | i + 1 => trh w t n x0 K A B i + mvh w t (trx w t n x0 K A B i) (K i) (A i)
noncomputable def trd (w : Pl) (t n x0 : Nat) (K A B : Nat → Nat) : Nat → Nat → Bool
  | 0, _ => false
  | i + 1, p => trd w t n x0 K A B i p || decide (((pl (trx w t n x0 K A B (i + 1)) p : Nat) : Int) = w 4 p)
/-- the gain of the first k, who had none (H) before -/
noncomputable def gdd (w : Pl) (t x : Nat) (h : Int) (H : Nat → Bool) : Nat → Int
  | 0 => 0
  | k + 1 => gdd w t x h H k + if (decide (((pl x k : Nat) : Int) = w 4 k) && !H k) = true then gainV w t k h else 0
noncomputable def trg (w : Pl) (t n x0 : Nat) (K A B : Nat → Nat) : Nat → Int
  | 0 => 0
  | i + 1 => trg w t n x0 K A B i + gdd w t (trx w t n x0 K A B (i + 1)) (trh w t n x0 K A B (i + 1)) (trd w t n x0 K A B i) n
noncomputable def trw (w : Pl) (t n x0 : Nat) (K A B : Nat → Nat) : Nat → Int
  | 0 => -1
  | i + 1 => if 0 ≤ trw w t n x0 K A B i then trw w t n x0 K A B i else if mvo w t n (trx w t n x0 K A B i) (K i) (A i) (B i) = true then -1 else (i : Nat)
theorem gdd_rng (w : Pl) (t x : Nat) (h : Int) (H : Nat → Bool) (k : Nat) : 0 ≤ gdd w t x h H k ∧ gdd w t x h H k ≤ 999 * (k : Nat) := by
  induction k with
  | zero => simp [gdd]
  | succ k ih =>
    have := gainV_rng w t k h
    simp only [gdd]
    split <;> omega
/-- the moves that are told -/
def MVs (s : Pl) (K A B : Nat → Nat) (m : Nat) : Prop := (s 68 4 = (m : Nat) ∧ s 72 29 = (m : Nat) ∧ m ≤ 16) ∧ ∀ i : Nat, i < m → (s 69 (i : Nat) = (K i : Nat) ∧ s 70 (i : Nat) = (A i : Nat) ∧ s 71 (i : Nat) = (B i : Nat)) ∧ (s 89 (i : Nat) = (K i : Nat) ∧ s 90 (i : Nat) = (A i : Nat) ∧ s 91 (i : Nat) = (B i : Nat)) ∧ K i ≤ 2 ∧ A i ≤ 99 ∧ (K i = 0 → A i < 4) ∧ (K i = 1 → A i < 6) ∧ B i < 6
theorem JJ.mvs {s : Pl} (hj : JJ s) : ∃ K A B m, MVs s K A B m := by
  obtain ⟨h1, h2, h3, h4⟩ := hj.2.2.2.2.1
  refine ⟨fun i => (s 69 (i : Nat)).toNat, fun i => (s 70 (i : Nat)).toNat, fun i => (s 71 (i : Nat)).toNat, (s 68 4).toNat, ⟨by omega, by omega, by omega⟩, fun i hi => ?_⟩
  have := h4 (i : Nat) (by omega) (by omega)
  dsimp only
  omega
theorem MVs.fQ {s s1 : Pl} {K A B : Nat → Nat} {m : Nat} (h : fQ s s1) (v : MVs s K A B m) : MVs s1 K A B m := by
  refine ⟨⟨by rw [h 68 4 (by unfold scr; omega) (by omega)]; exact v.1.1, by rw [h 72 29 (by unfold scr; omega) (by omega)]; exact v.1.2.1, v.1.2.2⟩, fun i hi => ?_⟩
  rw [h 69 _ (by unfold scr; omega) (by omega), h 70 _ (by unfold scr; omega) (by omega), h 71 _ (by unfold scr; omega) (by omega), h 89 _ (by unfold scr; omega) (by omega), h 90 _ (by unfold scr; omega) (by omega), h 91 _ (by unfold scr; omega) (by omega)]
  exact v.2 i hi
/-- what a trip changes of the class -/
def fT (t : Nat) (s s1 : Pl) : Prop := ∀ c i, c ≠ 58 → c ≠ 24 + 4 * t → c ≠ 62 → c ≠ 63 → (c = 57 → i < 11) → (c = 68 → i < 5) → s1 c i = s c i
theorem fT.trans {t : Nat} {s s1 s2 : Pl} (h : fT t s s1) (h2 : fT t s1 s2) : fT t s s2 := fun c i a b e f g k => by rw [h2 c i a b e f g k, h c i a b e f g k]
theorem fLk.fT {t : Nat} {s s1 : Pl} (h : fLk s s1) : fT t s s1 := fun c i _ _ _ _ e _ => h c i (fun q => Or.inl (e q))
theorem kL.fT {t : Nat} {s s1 : Pl} (h : kL t s s1) : fT t s s1 := fun c i a b _ _ _ _ => h c i a b
theorem fT.up {t : Nat} {s : Pl} {i v : Int} (hi : 5 ≤ i) : fT t s (zup s 68 i v) := fun c j _ _ _ _ _ g => by rw [zg, if_neg (fun q => by have := g q.1; omega)]
theorem LQ.fT {w s s1 s2 : Pl} {t n x0 : Nat} (ht : t < 6) (h : LQ w t n x0 s s1) (k : fT t s1 s2) : LQ w t n x0 s s2 := by
  have e57 : s2 59 = s1 59 := funext fun i => k 59 i (by decide) (by omega) (by decide) (by decide) (fun e => absurd e (by decide)) (fun e => absurd e (by decide))
  have e59 : s2 61 = s1 61 := funext fun i => k 61 i (by decide) (by omega) (by decide) (by decide) (fun e => absurd e (by decide)) (fun e => absurd e (by decide))
  refine ⟨h.1.trans fun c i a _ => k c i (by unfold scr at a; omega) (by unfold scr at a; omega) (by unfold scr at a; omega) (by unfold scr at a; omega) (by unfold scr at a; omega) (by unfold scr at a; omega), ?_, by rw [k 0 9 (by decide) (by omega) (by decide) (by decide) (by decide) (by decide)]; exact h.2.2.1, fun q => (h.2.2.2 q).cong (k 64 4 (by decide) (by omega) (by decide) (by decide) (by decide) (by decide)) (k 64 5 (by decide) (by omega) (by decide) (by decide) (by decide) (by decide)) (funext fun i => k 66 i (by decide) (by omega) (by decide) (by decide) (fun e => absurd e (by decide)) (fun e => absurd e (by decide))) (funext fun i => k 67 i (by decide) (by omega) (by decide) (by decide) (fun e => absurd e (by decide)) (fun e => absurd e (by decide)))⟩
  have l := h.2.1
  unfold Lrn at *
  rw [e57, e59, k 57 1 (by decide) (by omega) (by decide) (by decide) (by decide) (by decide), k 57 6 (by decide) (by omega) (by decide) (by decide) (by decide) (by decide), k 57 7 (by decide) (by omega) (by decide) (by decide) (by decide) (by decide), k 57 8 (by decide) (by omega) (by decide) (by decide) (by decide) (by decide), k 57 9 (by decide) (by omega) (by decide) (by decide) (by decide) (by decide), k 57 10 (by decide) (by omega) (by decide) (by decide) (by decide) (by decide)]
  exact l
theorem lkk.c55 {w s s1 : Pl} {n x : Nat} (h : s1 57 = s 57) (v : lkk w n x s) : lkk w n x s1 := by
  unfold lkk at *
  rw [h]; exact v
variable {xs : Nat → Int} {L : Nat} {d : Nat} {s : Pl}
theorem i77 {w : Pl} {t n x0 x l : Nat} {s0 : Pl} {P : Pl → Prop} (hd : 3 ≤ d) (hw : Wk w t n x0 s0) (hq : LQ w t n x0 s0 s) (hx : okx n x) (hl : l < 4) (hlk : lkk w n x s) (h5 : s 68 5 = (x : Nat)) (h6 : 0 ≤ s 68 6 ∧ s 68 6 ≤ 100000) (h : ∀ s1 : Pl, LQ w t n x0 s0 s1 → fT t s s1 → lkk w n (rwd x l) s1 → s1 68 5 = (rwd x l : Nat) → s1 68 6 = s 68 6 + RW w t (bt x) l → (∀ i : Int, 7 ≤ i → s1 68 i = s 68 i) → P s1) : Ev xs L T0 106 d 77 [rf 69, it (l : Nat)] s (qv P) := by
  have ht := hw.1.2.1.1
  have hn := hw.1.1.2
  have hb := bt_lt x
  have hR := RW_rng w t (bt x) l
  have zi : zw (zw (4 * (bt x : Nat)) + (l : Nat)) = 4 * (bt x : Nat) + (l : Nat) := by rw [zw_id (x := 4 * ((bt x : Nat) : Int)) (by omega) (by omega), zw_id (by omega) (by omega)]
  refine e77 (by omega) (f77_0 (i126 (by omega) (fun _ => ⟨fun z => absurd z (by decide), fun _ => ?_⟩) (fun z => absurd (by omega) z)))
  rw [hlk.1]
  refine i126 (by omega) (fun _ => ⟨fun z => absurd z (by decide), fun _ => ?_⟩) (fun z => absurd (by omega) z)
  rw [hlk.1, zi, hq.2.1.2.2.1 _ _ hb hl]
  have eR : (if bt x = l then (0 : Int) else rowV w t (bt x) l) = RW w t (bt x) l := rfl
  rw [eR, zw_id (x := s 68 6 + RW w t (bt x) l) (by omega) (by omega)]
  generalize hS : zup s 68 6 (s 68 6 + RW w t (bt x) l) = S
  have e5 : S 68 5 = (x : Nat) := by rw [← hS, zg, if_neg (by decide)]; exact h5
  have e55 : S 57 = s 57 := by rw [← hS, zune _ _ _ (by decide)]
  have e6 : S 68 6 = s 68 6 + RW w t (bt x) l := by rw [← hS, zg, if_pos ⟨rfl, rfl⟩]
  have e7 : ∀ i : Int, 7 ≤ i → S 68 i = s 68 i := fun i hi => by rw [← hS, zg, if_neg (by omega)]
  have fS : fT t s S := by rw [← hS]; exact fT.up (by decide)
  rw [e5]
  refine ⟨by omega, i46 (by omega) hx.1 hl (by rw [e55]; exact hlk.1) ?_⟩
  have e55' : (zup S 68 5 (rwd x l : Nat)) 68 5 = (rwd x l : Nat) := by rw [zg, if_pos ⟨rfl, rfl⟩]
  rw [e55']
  have fS2 : fT t s (zup S 68 5 (rwd x l : Nat)) := fS.trans (fT.up (by decide))
  refine i42 (by omega) hw.1.1.1 hn (rwd_ok hx hl).1 ((hq.fT ht fS2).1.sW hw.2.1) fun s1 k1 k2 => ?_
  have e66 : s1 68 = (zup S 68 5 (rwd x l : Nat)) 68 := funext fun i => k2 68 i (fun e => absurd e (by decide))
  exact h s1 (hq.fT ht (fS2.trans k2.fT)) (fS2.trans k2.fT) k1 (by rw [e66]; exact e55') (by rw [e66, zg, if_neg (by decide)]; exact e6) (fun i hi => by rw [e66, zg, if_neg (by omega)]; exact e7 i hi)
theorem i78 {w : Pl} {t n x0 x p q : Nat} {s0 : Pl} {P : Pl → Prop} (hd : 3 ≤ d) (hw : Wk w t n x0 s0) (hq : LQ w t n x0 s0 s) (hx : okx n x) (hs : swp w t n x p q) (hlk : lkk w n x s) (h5 : s 68 5 = (x : Nat)) (h : ∀ s1 : Pl, LQ w t n x0 s0 s1 → fT t s s1 → lkk w n (swd x p q) s1 → s1 68 5 = (swd x p q : Nat) → (∀ i : Int, 6 ≤ i → s1 68 i = s 68 i) → P s1) : Ev xs L T0 106 d 78 [rf 69, it (p : Nat), it (q : Nat)] s (qv P) := by
  have ht := hw.1.2.1.1
  have hn := hw.1.1.2
  have hw1 := hq.1.wk hw
  refine e78 (by omega) (f78_0 ?_)
  rw [h5]
  refine i45 (by omega) hw1.2.1 hw1.1.1.1 hn hs.1.1 hs.1.2 hx.1 hlk.1 hs.2.1.1 hs.2.1.2 ?_
  have e55' : (zup s 68 5 (swd x p q : Nat)) 68 5 = (swd x p q : Nat) := by rw [zg, if_pos ⟨rfl, rfl⟩]
  rw [e55']
  have fS2 : fT t s (zup s 68 5 (swd x p q : Nat)) := fT.up (by decide)
  refine i42 (by omega) hw.1.1.1 hn (swd_ok hx hs.1.1 hs.1.2).1 ((hq.fT ht fS2).1.sW hw.2.1) fun s1 k1 k2 => ?_
  have e66 : s1 68 = (zup s 68 5 (swd x p q : Nat)) 68 := funext fun i => k2 68 i (fun e => absurd e (by decide))
  exact h s1 (hq.fT ht (fS2.trans k2.fT)) (fS2.trans k2.fT) k1 (by rw [e66]; exact e55') (fun i hi => by rw [e66, zg, if_neg (by omega)])
/-- done -/
theorem i76 {w : Pl} {t n x0 x k a b : Nat} {s0 : Pl} {P : Int → Pl → Prop} (hd : 4 ≤ d) (hw : Wk w t n x0 s0) (hq : LQ w t n x0 s0 s) (hx : okx n x) (hk : k ≤ 2) (ha : a ≤ 99) (h0 : k = 0 → a < 4) (h1 : k = 1 → a < 6) (hb : b < 6) (hlk : lkk w n x s) (h5 : s 68 5 = (x : Nat)) (h6 : 0 ≤ s 68 6 ∧ s 68 6 ≤ 100000) (h : ∀ s1 : Pl, LQ w t n x0 s0 s1 → fT t s s1 → lkk w n (mvx w t n x k a b) s1 → s1 68 5 = (mvx w t n x k a b : Nat) → s1 68 6 = s 68 6 + mvh w t x k a → (∀ i : Int, 7 ≤ i → s1 68 i = s 68 i) → P (if mvo w t n x k a b = true then 1 else 0) s1) : Ev xs L T0 106 d 76 [rf 69, it (k : Nat), it (a : Nat), it (b : Nat)] s (qi P) := by
  have ht := hw.1.2.1.1
  have hn := hw.1.1.2
  have hw1 := hq.1.wk hw
  refine e76 (by omega) (f76_0 ⟨fun z1 => ⟨fun z2 => ?_, fun z2 => ?_⟩, fun z1 => ?_⟩)
  · have hk1 : k = 1 := by omega
    subst hk1
    have ex : mvx w t n x 1 a b = if swB w t n x a b = true then swd x a b else x := by unfold mvx; rw [if_neg (by decide), if_neg (by decide)]
    have eh : mvh w t x 1 a = 0 := by unfold mvh; rw [if_neg (by decide), if_neg (by decide)]
    have eo : mvo w t n x 1 a b = swB w t n x a b := by unfold mvo; rw [if_neg (by decide), if_neg (by decide)]
    rw [ex, eh, eo] at h
    refine i47 (by omega) hw1.1 hw1.2.1 hq.2.1 hlk (h1 rfl) hb (fun hs => ⟨fun z => absurd z (by decide), fun _ => ?_⟩) (fun hs => ⟨fun _ => ⟨Or.inl rfl, ?_⟩, fun z => absurd rfl z⟩)
    · have hsB := (swB_iff w t n x a b).mpr hs
      rw [if_pos hsB, if_pos hsB] at h
      refine i78 (by omega) hw hq hx hs hlk h5 fun s1 g1 g2 g3 g4 g5 => ⟨Or.inr rfl, h s1 g1 g2 g3 g4 (by rw [g5 6 (by decide)]; omega) (fun i hi => g5 i (by omega))⟩
    · have hsB : ¬ swB w t n x a b = true := fun q => hs ((swB_iff w t n x a b).mp q)
      rw [if_neg hsB, if_neg hsB] at h
      exact h s hq (fun _ _ _ _ _ _ _ _ => rfl) hlk h5 (by omega) (fun _ _ => rfl)
  · have hk0 : k = 0 := by omega
    subst hk0
    have ex : mvx w t n x 0 a b = rwd x a := by unfold mvx; rw [if_neg (by decide), if_pos rfl]
    have eh : mvh w t x 0 a = RW w t (bt x) a := by unfold mvh; rw [if_neg (by decide), if_pos rfl]
    have eo : mvo w t n x 0 a b = decide (a ≠ bt x) := by unfold mvo; rw [if_neg (by decide), if_pos rfl]
    rw [ex, eh, eo] at h
    rw [hlk.1]
    have nx : ∀ vs : Int, (vs = 0 ∨ vs = 1) → vs = (if decide (a ≠ bt x) = true then 1 else 0) → Fr xs L T0 106 (d - 1) 76 37 [some (rf 69), some (it ((0 : Nat) : Int)), some (it (a : Nat)), some (it (b : Nat)), none] [it vs] s (qi P) := fun vs q1 q2 => f76_37 (i77 (by omega) hw hq hx (h0 rfl) hlk h5 h6 fun s1 g1 g2 g3 g4 g5 g6 => ⟨q1, by rw [q2]; exact h s1 g1 g2 g3 g4 g5 g6⟩)
    exact ⟨fun z => nx 0 (Or.inl rfl) (by rw [if_neg (by simp; omega)]), fun z => nx 1 (Or.inr rfl) (by rw [if_pos (by simp; omega)])⟩
  · have hk2 : k = 2 := by omega
    subst hk2
    have ex : mvx w t n x 2 a b = x := by unfold mvx; rw [if_pos rfl]
    have eh : mvh w t x 2 a = (a : Nat) := by unfold mvh; rw [if_pos rfl]
    have eo : mvo w t n x 2 a b = true := by unfold mvo; rw [if_pos rfl]
    rw [ex, eh, eo, if_pos rfl] at h
    rw [zw_id (by omega) (by omega)]
    exact h _ (hq.fT ht (fT.up (by decide))) (fT.up (by decide)) (hlk.c55 (zune _ _ _ (by decide))) (by rw [zg, if_neg (by decide)]; exact h5) (by rw [zg, if_pos ⟨rfl, rfl⟩]) (fun i hi => by rw [zg, if_neg (by omega)])
/-- addGain -/
theorem i79 {w : Pl} {t n x0 x : Nat} {h6 : Int} {H : Nat → Bool} {s0 : Pl} {P : Pl → Prop} (hd : 5 ≤ d) (hw : Wk w t n x0 s0) (hq : LQ w t n x0 s0 s) (hlk : lkk w n x s) (e6 : s 68 6 = h6) (e8 : 0 ≤ s 68 8 ∧ s 68 8 ≤ 1000000) (e9 : s 68 9 = ((btn H n : Nat) : Int)) (h : ∀ s1 : Pl, LQ w t n x0 s0 s1 → fT t s s1 → lkk w n x s1 → (∀ i : Int, i ≤ 7 → s1 68 i = s 68 i) → s1 68 8 = s 68 8 + gdd w t x h6 H n → s1 68 9 = ((btn (fun p => H p || decide (((pl x p : Nat) : Int) = w 4 p)) n : Nat) : Int) → P s1) : Ev xs L T0 106 d 79 [rf 69] s (qv P) := by
  have ht := hw.1.2.1.1
  have hn := hw.1.1.2
  have l : ∀ (j k : Nat) (s1 : Pl) (v1 : Int), k + j = 6 → v1 = (k : Nat) → LQ w t n x0 s0 s1 → fT t s s1 → s1 57 = s 57 → (∀ i : Int, i ≠ 8 → s1 68 i = s 68 i) → s1 68 8 = s 68 8 + gdd w t x h6 H (min k n) → Fr xs L T0 106 (d - 1) 79 2 [some (rf 69), some (it v1)] [] s1 (qv P) := by
    intro j
    induction j with
    | zero =>
      intro k s1 v1 hk h1 g1 g2 g3 g4 g5
      refine f79_2 ⟨fun _ => ?_, fun z => absurd (by omega) z⟩
      rw [g4 9 (by decide), e9, g3, hlk.2.2.2, btn_or hn]
      refine h _ (g1.fT ht (fT.up (by decide))) (g2.trans (fT.up (by decide))) (hlk.c55 (by rw [zune _ _ _ (by decide)]; exact g3)) (fun i hi => by rw [zg, if_neg (by omega)]; exact g4 i (by omega)) (by rw [zg, if_neg (by decide), g5, Nat.min_eq_right (by omega)]) (by rw [zg, if_pos ⟨rfl, rfl⟩])
    | succ j ih =>
      intro k s1 v1 hk h1 g1 g2 g3 g4 g5
      subst h1
      have zk : ∀ _ : Unit, zw ((k : Nat) + 1) = ((k + 1 : Nat) : Int) := fun _ => by rw [zw_id (by omega) (by omega)]; omega
      refine f79_2 ⟨fun z => absurd z (by omega), fun _ => ?_⟩
      rw [g4 9 (by decide), e9, g3, hlk.2.2.2, btn_an hn, tbn hn (by omega)]
      by_cases hkn : k < n
      · have em : min (k + 1) n = k + 1 := by omega
        have em2 : min k n = k := by omega
        rw [em2] at g5
        by_cases e : (decide (((pl x k : Nat) : Int) = w 4 k) && !H k) = true
        · rw [if_pos (by simp only [hkn, decide_true, Bool.true_and]; exact e)]
          refine ⟨fun z => absurd z (by decide), fun _ => ?_⟩
          have hw1 := g1.1.wk hw
          rw [g4 6 (by decide), e6]
          refine i38w (by omega) hw1.1 hw1.2.1 hkn g1.2.1.1 fun s2 hs2 => f79_50 ?_
          have r1 := gdd_rng w t x h6 H k
          have r2 := gainV_rng w t k h6
          have e28 : s2 68 8 = s1 68 8 := hs2 68 8 (by decide) (by omega)
          rw [zk (), g5, zw_id (x := s 68 8 + gdd w t x h6 H k + gainV w t k h6) (by omega) (by omega)]
          refine ih (k + 1) _ _ (by omega) rfl (g1.fT ht (hs2.fT.trans (fT.up (by decide)))) (g2.trans (hs2.fT.trans (fT.up (by decide)))) (by rw [zune _ _ _ (by decide), ← g3]; exact funext fun i => hs2 57 i (by decide) (by omega)) (fun i hi => by rw [zg, if_neg (fun q => hi q.2), hs2 68 i (by decide) (by omega)]; exact g4 i hi) ?_
          rw [zg, if_pos ⟨rfl, rfl⟩, em]
          simp only [gdd]
          rw [if_pos e]; omega
        · rw [if_neg (by simp only [hkn, decide_true, Bool.true_and]; exact e)]
          refine ⟨fun _ => f79_50 ?_, fun z => absurd rfl z⟩
          rw [zk ()]
          refine ih (k + 1) s1 _ (by omega) rfl g1 g2 g3 g4 ?_
          rw [g5, em]
          simp only [gdd]
          rw [if_neg e]; omega
      · rw [if_neg (by simp [hkn])]
        refine ⟨fun _ => f79_50 ?_, fun z => absurd rfl z⟩
        rw [zk ()]
        refine ih (k + 1) s1 _ (by omega) rfl g1 g2 g3 g4 ?_
        rw [g5, Nat.min_eq_right (by omega), Nat.min_eq_right (by omega)]
  exact e79 (by omega) (f79_0 (l 6 0 s _ (by omega) rfl hq (fun _ _ _ _ _ _ _ _ => rfl) rfl (fun _ _ => rfl) (by simp [gdd])))
