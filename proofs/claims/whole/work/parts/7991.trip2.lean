/-! moves, the class's follow and the reference's doMoves -/
theorem trx_ok {w : Pl} {t n x0 m : Nat} {K A B : Nat → Nat} (hx : okx n x0) (h : ∀ i, i < m → K i = 0 → A i < 4) : ∀ i, i ≤ m → okx n (trx w t n x0 K A B i) := by
  intro i
  induction i with
  | zero => intro _; exact hx
  | succ i ih => intro hi; exact mvx_ok (ih (by omega)) (h i (by omega))
theorem trh_rng {w : Pl} {t n x0 m : Nat} {K A B : Nat → Nat} (h : ∀ i, i < m → A i ≤ 99) : ∀ i, i ≤ m → 0 ≤ trh w t n x0 K A B i ∧ trh w t n x0 K A B i ≤ 99 * (i : Nat) := by
  intro i
  induction i with
  | zero => intro _; simp [trh]
  | succ i ih =>
    intro hi
    have := ih (by omega)
    have := mvh_rng (w := w) (t := t) (x := trx w t n x0 K A B i) (k := K i) (h i (by omega))
    simp only [trh]
    omega
theorem trg_rng {w : Pl} {t n x0 : Nat} {K A B : Nat → Nat} (hn : n ≤ 6) : ∀ i : Nat, 0 ≤ trg w t n x0 K A B i ∧ trg w t n x0 K A B i ≤ 5994 * (i : Nat) := by
  intro i
  induction i with
  | zero => simp [trg]
  | succ i ih =>
    have := gdd_rng w t (trx w t n x0 K A B (i + 1)) (trh w t n x0 K A B (i + 1)) (trd w t n x0 K A B i) n
    simp only [trg]
    omega
theorem trw_rng {w : Pl} {t n x0 : Nat} {K A B : Nat → Nat} : ∀ i : Nat, trw w t n x0 K A B i = -1 ∨ (0 ≤ trw w t n x0 K A B i ∧ trw w t n x0 K A B i < (i : Nat)) := by
  intro i
  induction i with
  | zero => exact Or.inl rfl
  | succ i ih =>
    simp only [trw]
    split
    · omega
    · split <;> omega
theorem trw_stay {w : Pl} {t n x0 i : Nat} {K A B : Nat → Nat} (h : 0 ≤ trw w t n x0 K A B i) : ∀ j, trw w t n x0 K A B (i + j) = trw w t n x0 K A B i := by
  intro j
  induction j with
  | zero => rfl
  | succ j ih =>
    rw [show i + (j + 1) = (i + j) + 1 from rfl]
    simp only [trw]
    rw [ih, if_pos h]
variable {xs : Nat → Int} {L : Nat} {d : Nat} {s : Pl}
/-- begin -/
theorem i74 {w : Pl} {t n x0 : Nat} {s0 : Pl} {P : Pl → Prop} (hd : 3 ≤ d) (hw : Wk w t n x0 s0) (hq : LQ w t n x0 s0 s) (h : ∀ s1 : Pl, LQ w t n x0 s0 s1 → fT t s s1 → lkk w n x0 s1 → s1 68 5 = (x0 : Nat) → s1 68 6 = 0 → s1 68 7 = -1 → s1 68 8 = 0 → s1 68 9 = 0 → P s1) : Ev xs L T0 106 d 74 [rf 69] s (qv P) := by
  have ht := hw.1.2.1.1
  have hn := hw.1.1.2
  have hw1 := hq.1.wk hw
  refine e74 (by omega) (f74_0 (i8 (by omega) hn hw1.2.2.2.2.2.1.1 hw1.2.2.2.2.2.2.1 hw1.2.2.2.2.2.2.2.1 hw.2.2.1 ?_))
  have fS : fT t s (zup (zup (zup (zup (zup s 68 5 (x0 : Nat)) 68 6 0) 68 7 (-1)) 68 8 0) 68 9 0) := ((((fT.up (by decide)).trans (fT.up (by decide))).trans (fT.up (by decide))).trans (fT.up (by decide))).trans (fT.up (by decide))
  have z : ∀ i v, zup s 68 i v 68 i = v := fun i v => by rw [zg, if_pos ⟨rfl, rfl⟩]
  have e5 : (zup (zup (zup (zup (zup s 68 5 (x0 : Nat)) 68 6 0) 68 7 (-1)) 68 8 0) 68 9 0) 68 5 = (x0 : Nat) := by
    rw [zg, if_neg (by decide), zg, if_neg (by decide), zg, if_neg (by decide), zg, if_neg (by decide), zg, if_pos ⟨rfl, rfl⟩]
  have e6 : (zup (zup (zup (zup (zup s 68 5 (x0 : Nat)) 68 6 0) 68 7 (-1)) 68 8 0) 68 9 0) 68 6 = 0 := by
    rw [zg, if_neg (by decide), zg, if_neg (by decide), zg, if_neg (by decide), zg, if_pos ⟨rfl, rfl⟩]
  have e7 : (zup (zup (zup (zup (zup s 68 5 (x0 : Nat)) 68 6 0) 68 7 (-1)) 68 8 0) 68 9 0) 68 7 = -1 := by
    rw [zg, if_neg (by decide), zg, if_neg (by decide), zg, if_pos ⟨rfl, rfl⟩]
  have e8 : (zup (zup (zup (zup (zup s 68 5 (x0 : Nat)) 68 6 0) 68 7 (-1)) 68 8 0) 68 9 0) 68 8 = 0 := by
    rw [zg, if_neg (by decide), zg, if_pos ⟨rfl, rfl⟩]
  have e9 : (zup (zup (zup (zup (zup s 68 5 (x0 : Nat)) 68 6 0) 68 7 (-1)) 68 8 0) 68 9 0) 68 9 = 0 := by
    rw [zg, if_pos ⟨rfl, rfl⟩]
  generalize (zup (zup (zup (zup (zup s 68 5 (x0 : Nat)) 68 6 0) 68 7 (-1)) 68 8 0) 68 9 0) = S at *
  rw [e5]
  refine i42 (by omega) hw.1.1.1 hn hw.2.2.1.1 ((hq.fT ht fS).1.sW hw.2.1) fun s1 k1 k2 => ?_
  have e66 : s1 68 = S 68 := funext fun i => k2 68 i (fun e => absurd e (by decide))
  exact h s1 (hq.fT ht (fS.trans k2.fT)) (fS.trans k2.fT) k1 (by rw [e66]; exact e5) (by rw [e66]; exact e6) (by rw [e66]; exact e7) (by rw [e66]; exact e8) (by rw [e66]; exact e9)
/-- the class's trip, k moves of it -/
def TrC (w : Pl) (t n x0 : Nat) (K A B : Nat → Nat) (i : Nat) (s : Pl) : Prop := lkk w n (trx w t n x0 K A B i) s ∧ s 68 5 = (trx w t n x0 K A B i : Nat) ∧ s 68 6 = trh w t n x0 K A B i ∧ s 68 7 = trw w t n x0 K A B i ∧ s 68 8 = trg w t n x0 K A B i ∧ s 68 9 = ((btn (trd w t n x0 K A B i) n : Nat) : Int)
theorem fT.fQ {t : Nat} {s s1 : Pl} (ht : t < 6) (k : fT t s s1) : fQ s s1 := fun c i a _ => k c i (by unfold scr at a; omega) (by unfold scr at a; omega) (by unfold scr at a; omega) (by unfold scr at a; omega) (by unfold scr at a; omega) (by unfold scr at a; omega)
/-- follow -/
theorem i75 {w : Pl} {t n x0 m k : Nat} {K A B : Nat → Nat} {s0 : Pl} {P : Pl → Prop} (hd : 6 ≤ d) (hw : Wk w t n x0 s0) (hq : LQ w t n x0 s0 s) (hv : MVs s K A B m) (hk : k ≤ m) (h : ∀ s1 : Pl, LQ w t n x0 s0 s1 → fT t s s1 → TrC w t n x0 K A B k s1 → P s1) : Ev xs L T0 106 d 75 [rf 69, it (k : Nat)] s (qv P) := by
  have ht := hw.1.2.1.1
  have hn := hw.1.1.2
  have hA4 : ∀ i, i < m → K i = 0 → A i < 4 := fun i hi => (hv.2 i hi).2.2.2.2.1
  have hA99 : ∀ i, i < m → A i ≤ 99 := fun i hi => (hv.2 i hi).2.2.2.1
  have hm16 := hv.1.2.2
  have l : ∀ (j i : Nat) (s1 : Pl) (v2 : Int), i + j = k → v2 = (i : Nat) → LQ w t n x0 s0 s1 → fT t s s1 → TrC w t n x0 K A B i s1 → Fr xs L T0 106 (d - 1) 75 6 [some (rf 69), some (it (k : Nat)), some (it v2)] [] s1 (qv P) := by
    intro j
    induction j with
    | zero =>
      intro i s1 v2 hi h2 g1 g2 g3
      have e : i = k := by omega
      subst e
      exact f75_6 ⟨fun _ => h s1 g1 g2 g3, fun z => absurd (by omega) z⟩
    | succ j ih =>
      intro i s1 v2 hi h2 g1 g2 g3
      subst h2
      have zi : ∀ _ : Unit, zw ((i : Nat) + 1) = ((i + 1 : Nat) : Int) := fun _ => by rw [zw_id (by omega) (by omega)]; omega
      have hv1 := hv.fQ (g2.fQ ht)
      obtain ⟨⟨q1, q2, q3⟩, _, q4, q5, q6, q7, q8⟩ := hv1.2 i (by omega)
      obtain ⟨c1, c2, c3, c4, c5, c6⟩ := g3
      have r1 := trh_rng (w := w) (t := t) (n := n) (x0 := x0) (K := K) (B := B) hA99 i (by omega)
      have r2 := trg_rng (w := w) (t := t) (x0 := x0) (K := K) (A := A) (B := B) hn i
      have r3 := trw_rng (w := w) (t := t) (n := n) (x0 := x0) (K := K) (A := A) (B := B) i
      have e4 : s1 68 4 = (m : Nat) := hv1.1.1
      refine f75_6 ⟨fun z => absurd z (by omega), fun _ => ⟨fun z => absurd z (by omega), fun _ => ⟨fun z => absurd z (by omega), fun _ => ⟨by omega, by omega, by omega, ?_⟩⟩⟩⟩
      rw [q1, q2, q3]
      refine i76 (by omega) hw g1 (trx_ok hw.2.2.1 hA4 i (by omega)) q4 q5 q6 q7 q8 c1 c2 (by omega) fun s2 a1 a2 a3 a4 a5 a6 => ?_
      have n62 : ∀ s3 : Pl, LQ w t n x0 s0 s3 → fT t s1 s3 → lkk w n (trx w t n x0 K A B (i + 1)) s3 → s3 68 5 = (trx w t n x0 K A B (i + 1) : Nat) → s3 68 6 = trh w t n x0 K A B (i + 1) → s3 68 7 = trw w t n x0 K A B (i + 1) → s3 68 8 = s1 68 8 → s3 68 9 = s1 68 9 → Fr xs L T0 106 (d - 1) 75 62 [some (rf 69), some (it (k : Nat)), some (it (i : Nat))] [] s3 (qv P) := by
        intro s3 b1 b2 b3 b4 b5 b6 b7 b8
        refine f75_62 (i79 (H := trd w t n x0 K A B i) (by omega) hw b1 b3 b5 (by rw [b7, c5]; omega) (by rw [b8]; exact c6) fun s4 u1 u2 u3 u4 u5 u6 => ?_)
        rw [zi ()]
        refine ih (i + 1) s4 _ (by omega) rfl u1 (g2.trans (b2.trans u2)) ⟨u3, by rw [u4 5 (by decide)]; exact b4, by rw [u4 6 (by decide)]; exact b5, by rw [u4 7 (by decide)]; exact b6, ?_, ?_⟩
        · rw [u5, b7, c5]; rfl
        · rw [u6]; rfl
      have e6 : s2 68 6 = trh w t n x0 K A B (i + 1) := by rw [a5, c3]; rfl
      have e7 : s2 68 7 = trw w t n x0 K A B i := by rw [a6 7 (by decide)]; exact c4
      by_cases hm : mvo w t n (trx w t n x0 K A B i) (K i) (A i) (B i) = true
      · rw [if_pos hm]
        refine ⟨fun _ => n62 s2 a1 a2 a3 a4 e6 ?_ (a6 8 (by decide)) (a6 9 (by decide)), fun z => absurd (by decide) z⟩
        rw [e7]; simp only [trw]; rw [if_pos hm]
        split <;> omega
      · rw [if_neg hm]
        refine ⟨fun z => absurd rfl z, fun _ => ⟨fun z => n62 s2 a1 a2 a3 a4 e6 ?_ (a6 8 (by decide)) (a6 9 (by decide)), fun z => ?_⟩⟩
        · rw [e7] at z ⊢
          simp only [trw]; rw [if_pos z]
        · rw [e7] at z
          refine n62 _ (a1.fT ht (fT.up (by decide))) (a2.trans (fT.up (by decide))) (a3.c55 (zune _ _ _ (by decide))) (by rw [zg, if_neg (by decide)]; exact a4) (by rw [zg, if_neg (by decide)]; exact e6) ?_ (by rw [zg, if_neg (by decide)]; exact a6 8 (by decide)) (by rw [zg, if_neg (by decide)]; exact a6 9 (by decide))
          rw [zg, if_pos ⟨rfl, rfl⟩]
          simp only [trw]; rw [if_neg z, if_neg hm]
  refine e75 (by omega) (f75_0 (i74 (by omega) hw hq fun s1 k1 k2 k3 k4 k5 k6 k7 k8 => ?_))
  refine l k 0 s1 _ (by omega) rfl k1 k2 ⟨k3, k4, k5, k6, k7, ?_⟩
  rw [k8, (btn_zero (f := trd w t n x0 K A B 0) (n := n)).mpr (fun _ _ => rfl)]; rfl
/-- what the reference's moves change -/
def fDo (n : Nat) (s s1 : Pl) : Prop := ∀ c i, c ≠ 85 → c ≠ 86 → (c = 75 → i < 0 ∨ ((n : Nat) : Int) ≤ i) → (c = 72 → i ≠ 2 ∧ i ≠ 35 ∧ i ≠ 36) → s1 c i = s c i
theorem fDo.refl (n : Nat) (s : Pl) : fDo n s s := fun _ _ _ _ _ _ => rfl
theorem fDo.trans {n : Nat} {s s1 s2 : Pl} (h : fDo n s s1) (h2 : fDo n s1 s2) : fDo n s s2 := fun c i a b e f => by rw [h2 c i a b e f, h c i a b e f]
theorem fKp.fDo {n : Nat} {s s1 : Pl} (h : fKp n s s1) : fDo n s s1 := fun c i a b e f => h c i a b e (fun q => (f q).1)
theorem fDo.up {n : Nat} {s : Pl} {i v : Int} (hi : i = 35 ∨ i = 36) : fDo n s (zup s 72 i v) := fun c j _ _ _ f => by rw [zg, if_neg (fun q => by have := f q.1; omega)]
theorem fDo.mst {n n2 : Nat} {w s s1 : Pl} {t : Nat} (h : fDo n s s1) (v : Mst w t n2 s) : Mst w t n2 s1 := cMst (fun c i hm => by have := mMs_out hm; exact h c i (by omega) (by omega) (by omega) (by omega)) v
theorem i185d {n : Nat} {s3 s4 : Pl} {P : Pl → Prop} (hd : 1 ≤ d) (hn : n ≤ 6) (hk : kept9 s3 s4) (hf : fDo n s4 s) (h : ∀ s2 : Pl, fM s3 s2 → P s2) : Ev xs L T0 106 d 185 [rf 73] s (qv P) := by
  refine i185 hd fun s1 k1 k2 k3 => h s1 ?_
  have e34 : s1 72 2 = s3 72 2 := by rw [k1, hf 72 34 (by decide) (by decide) (fun e => absurd e (by decide)) (by decide)]; exact hk.1
  have e73 : ∀ i, s1 75 i = s3 75 i := fun i => by
    by_cases hi : 0 ≤ i ∧ i < 6
    · rw [k2 i hi.1 hi.2, hf 92 i (by decide) (by decide) (fun e => absurd e (by decide)) (fun e => absurd e (by decide))]
      exact hk.2.1 i hi.1 hi.2
    · rw [k3 75 i (fun _ => by omega) (fun e => absurd e (by decide)), hf 75 i (by decide) (by decide) (fun _ => by omega) (fun e => absurd e (by decide))]
      exact hk.2.2 75 i (by decide) (fun e => absurd e (by decide))
  have key : ∀ c i, c ≠ 85 → c ≠ 86 → c ≠ 92 → (c = 72 → i ≠ 35 ∧ i ≠ 36 ∧ i ≠ 34) → s1 c i = s3 c i := fun c i a b e f => by
    by_cases e3 : c = 75
    · subst e3; exact e73 i
    · by_cases e2 : c = 72 ∧ i = 2
      · rw [e2.1, e2.2]; exact e34
      · rw [k3 c i (fun q => absurd q e3) (fun q q2 => e2 ⟨q, q2⟩), hf c i a b (fun q => absurd q e3) (fun q => ⟨fun q2 => e2 ⟨q, q2⟩, (f q).1, (f q).2.1⟩)]
        exact hk.2.2 c i e (fun q => (f q).2.2)
  exact ⟨fun c hc => funext fun i => key c i (by omega) (by omega) (by omega) (by omega), fun c i a _ => key c i (by unfold scr at a; omega) (by unfold scr at a; omega) (by unfold scr at a; omega) (by unfold scr at a; omega)⟩
theorem fM.keep {s s1 : Pl} (h : fM s s1) {c : Nat} (h7 : 89 ≤ c ∧ c ≤ 91) : s1 c = s c := h.2.cell (fun i => by unfold scr; omega) (by omega)
/-- does -/
theorem i186 {w : Pl} {t n x i k a b : Nat} {P : Int → Pl → Prop} (hd : 5 ≤ d) (hk : wOk w t n) (hm : Mst w t n s) (hxo : okx n x) (hx : mx n x s) (hi : i < 16) (e1 : s 89 (i : Nat) = (k : Nat)) (e2 : s 90 (i : Nat) = (a : Nat)) (e3 : s 91 (i : Nat) = (b : Nat)) (hk2 : k ≤ 2) (h0 : k = 0 → a < 4) (h1 : k = 1 → a < 6) (hb : b < 6) (h : ∀ s1 : Pl, mx n (mvx w t n x k a b) s1 → fKp n s s1 → P (if mvo w t n x k a b = true then mvh w t x k a else -1) s1) : Ev xs L T0 106 d 186 [rf 73, it (i : Nat)] s (qi P) := by
  have hn := hk.1.2
  have hbt := bt_lt x
  refine e186 (by omega) (f186_0 ⟨by omega, ?_⟩)
  rw [e1]
  refine ⟨fun z => ⟨by omega, fun z1 => ⟨by omega, ?_⟩, fun z1 => ⟨by omega, by omega, ?_⟩⟩, fun z => ⟨by omega, ?_⟩⟩
  · have k0 : k = 0 := by omega
    subst k0
    have ex : mvx w t n x 0 a b = rwd x a := by unfold mvx; rw [if_neg (by decide), if_pos rfl]
    have eh : mvh w t x 0 a = RW w t (bt x) a := by unfold mvh; rw [if_neg (by decide), if_pos rfl]
    have eo : mvo w t n x 0 a b = decide (a ≠ bt x) := by unfold mvo; rw [if_neg (by decide), if_pos rfl]
    rw [ex, eh, eo] at h
    rw [e2, hx.1]
    refine ⟨fun z2 => ⟨by omega, i165w (by omega) hk hm (bt_lt x) (h0 rfl) fun s1 hs1 => ⟨by omega, ?_⟩⟩, fun z2 => ?_⟩
    · have e88 : s1 90 (i : Nat) = (a : Nat) := by rw [hs1 90 _ (by decide) (by decide)]; exact e2
      have hne : a ≠ bt x := by omega
      have := h (zup s1 72 2 (a : Nat)) (mx_rwd hn (h0 rfl) (hs1.mx hx)) (hs1.fKp.trans fun c j _ _ _ f => by rw [zg, if_neg (fun q => f q.1 q.2)])
      rw [if_pos (by simp [hne])] at this
      rw [e88]
      unfold RW at this
      rw [if_neg (fun q => hne q.symm)] at this
      exact this
    · have hne : a = bt x := by omega
      have := h s (by rw [hne, rwd_self hxo.1]; exact hx) (fKp.refl n s)
      rw [if_neg (by simp [hne])] at this
      exact this
  · have k1 : k = 1 := by omega
    subst k1
    have ex : mvx w t n x 1 a b = if swB w t n x a b = true then swd x a b else x := by unfold mvx; rw [if_neg (by decide), if_neg (by decide)]
    have eh : mvh w t x 1 a = 0 := by unfold mvh; rw [if_neg (by decide), if_neg (by decide)]
    have eo : mvo w t n x 1 a b = swB w t n x a b := by unfold mvo; rw [if_neg (by decide), if_neg (by decide)]
    rw [ex, eh, eo] at h
    rw [e2, e3]
    refine i176 (by omega) hk hm hx (h1 rfl) hb (fun hs s1 hs1 => ⟨fun _ => ⟨by omega, by omega, ?_⟩, fun z => absurd (by decide) z⟩) (fun hs s1 hs1 => ⟨fun z => absurd rfl z, fun _ => ?_⟩)
    · have hsB := (swB_iff w t n x a b).mpr hs
      rw [if_pos hsB, if_pos hsB] at h
      rw [hs1 90 _ (by decide) (by decide), hs1 91 _ (by decide) (by decide), e2, e3]
      refine i177a (by omega) hn hs.1.1 hs.1.2 (fun q => ?_) (hs1.mx hx) fun s2 g1 g2 g3 => h s2 g1 (hs1.fKp.trans fun c j _ _ u _ => ?_)
      · have u1 := hs.2.1.1
        have u2 := hs.2.1.2
        rw [q] at u1
        omega
      · by_cases ec : c = 75
        · subst ec
          have := u rfl
          have := hs.1
          exact g3 j (by omega) (by omega)
        · rw [g2 c ec]
    · have hsB : ¬ swB w t n x a b = true := fun q => hs ((swB_iff w t n x a b).mp q)
      rw [if_neg hsB, if_neg hsB] at h
      exact h s1 (hs1.mx hx) hs1.fKp
  · have k2 : k = 2 := by omega
    subst k2
    have ex : mvx w t n x 2 a b = x := by unfold mvx; rw [if_pos rfl]
    have eh : mvh w t x 2 a = (a : Nat) := by unfold mvh; rw [if_pos rfl]
    have eo : mvo w t n x 2 a b = true := by unfold mvo; rw [if_pos rfl]
    rw [ex, eh, eo, if_pos rfl] at h
    rw [e2]
    exact h s hx (fKp.refl n s)
