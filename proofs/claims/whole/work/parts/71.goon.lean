/-! the reference's search: from one state on -/
def Cov (N : Nat) (g cs : Nat → Nat) (y c : Nat) : Prop := ∃ i, i < N ∧ g i = y ∧ cs i ≤ c
def Clo (w : Pl) (t n m N : Nat) (g cs : Nat → Nat) (i : Nat) : Prop := ∀ y e, Eg w t n m (g i) y e → cs i + e ≤ 400 → Cov N g cs y (cs i + e)
def GI (w : Pl) (t n m x0 : Nat) (s : Pl) (N : Nat) (g cs : Nat → Nat) (dn : Nat → Bool) (cur x K : Nat) : Prop :=
  ML n s N g cs dn ∧ (∀ i, i < N → (∃ st, pth w t n m x0 st (g i) (cs i)) ∧ cs i ≤ 400) ∧ (∀ i, N ≤ i → dn i = false) ∧ ((∀ i, i < N → dn i = true → cs i ≤ K) ∧ ∀ i, i < N → dn i = false → K ≤ cs i) ∧ (cur < N ∧ dn cur = true ∧ g cur = x ∧ cs cur = K) ∧ (∀ i, i < N → dn i = true → i ≠ cur → Clo w t n m N g cs i) ∧ Cov N g cs x0 0
def Mo (N : Nat) (g cs : Nat → Nat) (M : Nat) (h cr : Nat → Nat) : Prop := ∀ y c, Cov N g cs y c → Cov M h cr y c
theorem Mo.refl (N : Nat) (g cs : Nat → Nat) : Mo N g cs N g cs := fun _ _ h => h
theorem Mo.trans {N M K : Nat} {g cs h cr a b : Nat → Nat} (h1 : Mo N g cs M h cr) (h2 : Mo M h cr K a b) : Mo N g cs K a b := fun y c q => h2 y c (h1 y c q)
theorem fCm.mst {w s s1 : Pl} {t n : Nat} (h : fCm s s1) (v : Mst w t n s) : Mst w t n s1 := cMst (fun c i hm => by have := mMs_out hm; exact h c i (by omega) (by omega) (by omega) (by omega) (by omega)) v
theorem fCm.mx {s s1 : Pl} {n x : Nat} (h : fCm s s1) (v : mx n x s) : mx n x s1 := ⟨by rw [h 72 2 (by decide) (by decide) (by decide) (by decide) (by decide)]; exact v.1, fun r hr => by rw [h 75 _ (by decide) (by decide) (by decide) (by decide) (fun e => absurd e (by decide))]; exact v.2 r hr⟩
/-- what goOn leaves alone -/
def fGo (n : Nat) (s s1 : Pl) : Prop := ∀ c i, c ≠ 85 → c ≠ 86 → c ≠ 93 → c ≠ 94 → c ≠ 95 → c ≠ 96 → (c = 75 → i < 0 ∨ ((n : Nat) : Int) ≤ i) → (c = 72 → i ≠ 2 ∧ i ≠ 37) → s1 c i = s c i
theorem fGo.refl (n : Nat) (s : Pl) : fGo n s s := fun _ _ _ _ _ _ _ _ _ _ => rfl
theorem fGo.trans {n : Nat} {s s1 s2 : Pl} (h : fGo n s s1) (h2 : fGo n s1 s2) : fGo n s s2 := fun c i a b e f g k l m => by rw [h2 c i a b e f g k l m, h c i a b e f g k l m]
theorem fCm.fGo {n : Nat} {s s1 : Pl} (h : fCm s s1) : fGo n s s1 := fun c i _ _ a b e f _ g => h c i a b e f (fun q => (g q).2)
theorem kG.fGo {n : Nat} {s s1 : Pl} (h : kG s s1) : fGo n s s1 := fun c i a b _ _ _ _ _ _ => h c i a b
theorem fBe.fGo {n : Nat} {s s1 : Pl} (h : fBe n s s1) : fGo n s s1 := fun c i _ _ _ _ _ _ a b => h c i a (fun q => (b q).1)
theorem fGo.mst {n n2 : Nat} {w s s1 : Pl} {t : Nat} (h : fGo n s s1) (v : Mst w t n2 s) : Mst w t n2 s1 := cMst (fun c i hm => by have := mMs_out hm; exact h c i (by omega) (by omega) (by omega) (by omega) (by omega) (by omega) (by omega) (by omega)) v
theorem fGo.b2 {n : Nat} {s : Pl} (v : Int) : fGo n s (zup s 72 2 v) := fun c i _ _ _ _ _ _ _ g => by rw [zg, if_neg (fun q => (g q.1).1 q.2)]
theorem kG.ml {n N : Nat} {s s1 : Pl} {g cs : Nat → Nat} {dn : Nat → Bool} (h : kG s s1) (v : ML n s N g cs dn) : ML n s1 N g cs dn :=
  v.cong (h 72 37 (by decide) (by decide)) (funext fun i => h 93 i (by decide) (by decide)) (funext fun i => h 94 i (by decide) (by decide)) (funext fun i => h 95 i (by decide) (by decide)) (funext fun i => h 96 i (by decide) (by decide))
theorem fBe.ml {n n2 N : Nat} {s s1 : Pl} {g cs : Nat → Nat} {dn : Nat → Bool} (h : fBe n2 s s1) (v : ML n s N g cs dn) : ML n s1 N g cs dn :=
  v.cong (h 72 37 (fun e => absurd e (by decide)) (by decide)) (funext fun i => h 93 i (by omega) (by omega)) (funext fun i => h 94 i (by omega) (by omega)) (funext fun i => h 95 i (by omega) (by omega)) (funext fun i => h 96 i (by omega) (by omega))
theorem GI.of {w : Pl} {t n m x0 N cur x K : Nat} {s s1 : Pl} {g cs : Nat → Nat} {dn : Nat → Bool} (v : GI w t n m x0 s N g cs dn cur x K) (h : ML n s N g cs dn → ML n s1 N g cs dn) : GI w t n m x0 s1 N g cs dn cur x K := ⟨h v.1, v.2⟩
variable {xs : Nat → Int} {L : Nat} {d : Nat} {s : Pl}
/-- to one more state by one edge -/
theorem i193g {w : Pl} {t n m x0 N cur x K y e : Nat} {g cs : Nat → Nat} {dn : Nat → Bool} {P : Pl → Prop} (hd : 2 ≤ d) (hn : n ≤ 6) (h3 : s 72 3 = (n : Nat)) (hx0 : okx n x0) (gi : GI w t n m x0 s N g cs dn cur x K) (hx : mx n y s) (he : Eg w t n m x y e)
    (h : ∀ (s1 : Pl) (M : Nat) (g1 cs1 : Nat → Nat), GI w t n m x0 s1 M g1 cs1 dn cur x K → Mo N g cs M g1 cs1 → (K + e ≤ 400 → Cov M g1 cs1 y (K + e)) → fCm s s1 → P s1) : Ev xs L T0 106 d 193 [rf 73, it ((K + e : Nat) : Int)] s (qv P) := by
  have gi2 := gi
  obtain ⟨a1, a2, a3, ⟨a4, a4u⟩, ⟨b1, b2, b3, b4⟩, a6, a7⟩ := gi
  have hpx := (a2 cur b1).1
  rw [b3, b4] at hpx
  have hpy : ∃ st, pth w t n m x0 st y (K + e) := pth_next hpx he
  have hy : okx n y := by obtain ⟨st, q⟩ := hpy; exact pth_ok hx0 st y _ q
  refine i193 hd hn h3 a1 hx hy (a3 N (Nat.le_refl _)) (fun hnew => ?_) (fun hc => ?_) (fun hc i hi hg hcs => ?_) (fun hc i hi hg hcs s1 k1 k2 => ?_) (fun hc hnew s1 k1 k2 => ?_)
  · have := pth_bound (N := N + 1) hn hx0 (ext9_inj a1.2.2.1 (fun ⟨i, q1, q2⟩ => hnew i q1 q2)) (ext9_all (R := fun z => ∃ j k, pth w t n m x0 j z k) (fun i hi => by obtain ⟨st, q⟩ := (a2 i hi).1; exact ⟨st, _, q⟩) (by obtain ⟨st, q⟩ := hpy; exact ⟨st, _, q⟩))
    omega
  · exact h s N g cs gi2 (Mo.refl _ _ _) (fun q => absurd q (by omega)) (fun _ _ _ _ _ _ _ => rfl)
  · exact h s N g cs gi2 (Mo.refl _ _ _) (fun _ => ⟨i, hi, hg, hcs⟩) (fun _ _ _ _ _ _ _ => rfl)
  · have hdi : dn i = false := by
      cases q : dn i with
      | false => rfl
      | true => have := a4 i hi q; omega
    have mono : ∀ k, ext9 cs i (K + e) k ≤ cs k := by
      intro k
      by_cases q : k = i
      · subst q; rw [ext9_at]; omega
      · rw [ext9_ne q]; exact Nat.le_refl _
    have same : ∀ k, dn k = true → ext9 cs i (K + e) k = cs k := fun k hk => ext9_ne (fun q => by rw [q, hdi] at hk; cases hk)
    have mo : Mo N g cs N g (ext9 cs i (K + e)) := fun z c ⟨k, q1, q2, q3⟩ => ⟨k, q1, q2, Nat.le_trans (mono k) q3⟩
    refine h s1 N g _ ⟨k1, fun k hk => ?_, a3, ⟨fun k hk hdk => by rw [same k hdk]; exact a4 k hk hdk, fun k hk hdk => ?_⟩, ⟨b1, b2, b3, by rw [same cur b2]; exact b4⟩, fun k hk hdk hne z e2 he2 hl => ?_, mo _ _ a7⟩ mo (fun _ => ⟨i, hi, hg, by rw [ext9_at]; exact Nat.le_refl _⟩) k2
    · by_cases q : k = i
      · subst q; rw [ext9_at, hg]; exact ⟨hpy, hc⟩
      · rw [ext9_ne q]; exact a2 k hk
    · by_cases q : k = i
      · subst q; rw [ext9_at]; omega
      · rw [ext9_ne q]; exact a4u k hk hdk
    · rw [same k hdk] at hl ⊢
      exact mo _ _ (a6 k hk hdk hne z e2 he2 hl)
  · have hdN := a3 N (Nat.le_refl _)
    have mo : Mo N g cs (N + 1) (ext9 g N y) (ext9 cs N (K + e)) := fun z c ⟨k, q1, q2, q3⟩ => ⟨k, by omega, by rw [ext9_ne (by omega)]; exact q2, by rw [ext9_ne (by omega)]; exact q3⟩
    refine h s1 (N + 1) _ _ ⟨k1, fun k hk => ?_, fun k hk => a3 k (by omega), ⟨fun k hk hdk => ?_, fun k hk hdk => ?_⟩, ⟨by omega, b2, by rw [ext9_ne (by omega)]; exact b3, by rw [ext9_ne (by omega)]; exact b4⟩, fun k hk hdk hne z e2 he2 hl => ?_, mo _ _ a7⟩ mo (fun _ => ⟨N, by omega, ext9_at _ _ _, by rw [ext9_at]; exact Nat.le_refl _⟩) k2
    · by_cases q : k = N
      · subst q; rw [ext9_at, ext9_at]; exact ⟨hpy, hc⟩
      · rw [ext9_ne q, ext9_ne q]; exact a2 k (by omega)
    · have q : k ≠ N := fun q => by rw [q, hdN] at hdk; cases hdk
      rw [ext9_ne q]; exact a4 k (by omega) hdk
    · by_cases q : k = N
      · subst q; rw [ext9_at]; omega
      · rw [ext9_ne q]; exact a4u k (by omega) hdk
    · have q : k ≠ N := fun q => by rw [q, hdN] at hdk; cases hdk
      rw [ext9_ne q] at he2 hl ⊢
      exact mo _ _ (a6 k (by omega) hdk hne z e2 he2 hl)
theorem i165w {w : Pl} {t n : Nat} {u v : Nat} {P : Int → Pl → Prop} (hd : 3 ≤ d) (hk : wOk w t n) (hm : Mst w t n s) (hu : u < 4) (hv : v < 4) (h : ∀ s2 : Pl, kG s s2 → P (rowV w t u v) s2) : Ev xs L T0 106 d 165 [rf 73, it (u : Nat), it (v : Nat)] s (qi P) := by
  have ht := hk.2.1.1
  have h9 := hm.2.2.2.2 (4 * (u : Nat) + (v : Nat)) (by omega) (by omega)
  have hb := hk.2.2.2 (4 * (u : Nat) + (v : Nat)) (by omega) (by omega)
  refine i165 ht hd (by omega) (by omega) hm.2.2.1.1 hm.2.1.1 hm.2.1.2.1 hm.2.1.2.2 (by rw [h9]; omega) fun s2 hs2 => ?_
  rw [hm.1 _ (by omega) (stc22 t ht).1, hm.1 _ (by omega) (stc22 t ht).2, h9]
  exact h s2 hs2
theorem mx_rwd {n x l : Nat} (hn : n ≤ 6) (hl : l < 4) (hx : mx n x s) : mx n (rwd x l) (zup s 72 2 (l : Nat)) :=
  ⟨by rw [zg, if_pos ⟨rfl, rfl⟩, rwd_bt hl], fun r hr => by rw [zune _ _ _ (by decide), rwd_pl hl (by omega)]; exact hx.2 r hr⟩
theorem mx_b {n x y : Nat} {v : Int} (hx : mx n x s) (hp : ∀ r, r < n → pl y r = pl x r) (hv : v = (bt y : Nat)) : mx n y (zup s 72 2 v) :=
  ⟨by rw [zg, if_pos ⟨rfl, rfl⟩, hv], fun r hr => by rw [zune _ _ _ (by decide), hp r hr]; exact hx.2 r hr⟩
theorem b2_ml {n N : Nat} {v : Int} {g cs : Nat → Nat} {dn : Nat → Bool} (h : ML n s N g cs dn) : ML n (zup s 72 2 v) N g cs dn :=
  h.cong (by rw [zg, if_neg (by decide)]) (zune _ _ _ (by decide)) (zune _ _ _ (by decide)) (zune _ _ _ (by decide)) (zune _ _ _ (by decide))
theorem at_ml {n N : Nat} {p q a b : Int} {g cs : Nat → Nat} {dn : Nat → Bool} (h : ML n s N g cs dn) : ML n (zup (zup s 75 p a) 75 q b) N g cs dn :=
  h.cong (by rw [zune _ _ _ (by decide), zune _ _ _ (by decide)]) (by rw [zune _ _ _ (by decide), zune _ _ _ (by decide)]) (by rw [zune _ _ _ (by decide), zune _ _ _ (by decide)]) (by rw [zune _ _ _ (by decide), zune _ _ _ (by decide)]) (by rw [zune _ _ _ (by decide), zune _ _ _ (by decide)])
/-- swap -/
theorem i177a {n x p q : Nat} {P : Pl → Prop} (hd : 1 ≤ d) (hn : n ≤ 6) (hp : p < n) (hq : q < n) (hpq : p ≠ q) (hx : mx n x s) (h : ∀ s1 : Pl, mx n (swd x p q) s1 → (∀ c, c ≠ 75 → s1 c = s c) → (∀ i : Int, i ≠ (p : Nat) → i ≠ (q : Nat) → s1 75 i = s 75 i) → P s1) : Ev xs L T0 106 d 177 [rf 73, it (p : Nat), it (q : Nat)] s (qv P) := by
  refine e177 (by omega) (f177_0 ⟨by omega, by omega, h _ ?_ ?_ ?_⟩)
  · refine ⟨by rw [zune _ _ _ (by decide), zune _ _ _ (by decide), swd_bt]; exact hx.1, fun r hr => ?_⟩
    rw [swd_pl (by omega), zg, zg, hx.1]
    unfold swf
    by_cases a : r = q
    · subst a; simp
    · by_cases b : r = p
      · subst b
        have : ¬ ((r : Nat) : Int) = (q : Nat) := by omega
        simp [this, a]
      · have a2 : ¬ ((r : Nat) : Int) = (q : Nat) := by omega
        have b2 : ¬ ((r : Nat) : Int) = (p : Nat) := by omega
        simp [a, b, a2, b2, hx.2 r hr]
  · intro c hc
    rw [zune _ _ _ hc, zune _ _ _ hc]
  · intro i h1 h2
    rw [zg, if_neg (fun z => h2 z.2), zg, if_neg (fun z => h1 z.2)]
/-- and back -/
theorem i177b {n x p q : Nat} {P : Pl → Prop} (hd : 1 ≤ d) (hn : n ≤ 6) (hp : p < n) (hq : q < n) (hpq : p ≠ q) (h4 : pl x p = 4) (hb : pl x q = bt x) (hx : mx n (swd x p q) s) (h : ∀ s1 : Pl, mx n x s1 → (∀ c, c ≠ 75 → s1 c = s c) → (∀ i : Int, i ≠ (p : Nat) → i ≠ (q : Nat) → s1 75 i = s 75 i) → P s1) : Ev xs L T0 106 d 177 [rf 73, it (q : Nat), it (p : Nat)] s (qv P) := by
  refine e177 (by omega) (f177_0 ⟨by omega, by omega, h _ ?_ ?_ ?_⟩)
  · have h1 := hx.1
    rw [swd_bt] at h1
    refine ⟨by rw [zune _ _ _ (by decide), zune _ _ _ (by decide)]; exact h1, fun r hr => ?_⟩
    have h2 := hx.2 r hr
    rw [swd_pl (by omega)] at h2
    unfold swf at h2
    rw [zg, zg, h1]
    by_cases a : r = p
    · subst a; rw [if_pos ⟨rfl, rfl⟩, h4]; rfl
    · rw [if_neg (fun z => a (by omega))]
      by_cases b : r = q
      · subst b; rw [if_pos ⟨rfl, rfl⟩, hb]
      · rw [if_neg (fun z => b (by omega)), h2, if_neg b, if_neg a]
  · intro c hc
    rw [zune _ _ _ hc, zune _ _ _ hc]
  · intro i h1 h2
    rw [zg, if_neg (fun z => h1 z.2), zg, if_neg (fun z => h2 z.2)]
theorem i194 {w : Pl} {t n m x0 N cur x K : Nat} {g cs : Nat → Nat} {dn : Nat → Bool} {P : Pl → Prop} (hd : 5 ≤ d) (hm3 : m < 3) (hk : wOk w t n) (hm : Mst w t n s) (hx0 : okx n x0) (hxx : okx n x) (gi : GI w t n m x0 s N g cs dn cur x K)
    (h : ∀ (s1 : Pl) (M : Nat) (g1 cs1 : Nat → Nat), GI w t n m x0 s1 M g1 cs1 dn cur x K → Clo w t n m M g1 cs1 cur → fGo n s s1 → P s1) : Ev xs L T0 106 d 194 [rf 73, it (cur : Nat), it (m : Nat)] s (qv P) := by
  have hn := hk.1.2
  have hbx := bt_lt x
  obtain ⟨b1, b2, b3, b4⟩ := gi.2.2.2.2.1
  have hN := gi.1.1.2
  have hK : K ≤ 400 := by have := (gi.2.1 cur b1).2; omega
  have e92 : ∀ (s1 : Pl) (M : Nat) (g1 cs1 : Nat → Nat), GI w t n m x0 s1 M g1 cs1 dn cur x K → s1 94 ((cur : Nat) : Int) = (K : Nat) ∧ cur < 1500 := fun s1 M g1 cs1 q => ⟨by
    have := (q.1.2.1 cur q.2.2.2.2.1.1).2.1
    rw [this, q.2.2.2.2.1.2.2.2], by have := q.1.1.2; have := q.2.2.2.2.1.1; omega⟩
  have e91 : s 93 ((cur : Nat) : Int) = (mcd x n : Nat) := by rw [(gi.1.2.1 cur b1).1, b3]
  have e703 : ∀ s1, fGo n s s1 → s1 72 3 = (n : Nat) := fun s1 q => (q.mst hm).2.2.1.2
  -- the swaps
  have swl : ∀ (p : Nat), p < n → (∀ (s1 : Pl) (M : Nat) (g1 cs1 : Nat → Nat) (v5 : Int), GI w t n m x0 s1 M g1 cs1 dn cur x K → mx n x s1 → (∀ y e, (∃ l, l < 4 ∧ l ≠ bt x ∧ y = rwd x l ∧ ((e : Nat) : Int) = egw w t m (bt x) l) → K + e ≤ 400 → Cov M g1 cs1 y (K + e)) → (∀ a q, a < p + 1 → swp w t n x a q → K + (if m = 1 then 1 else 0) ≤ 400 → Cov M g1 cs1 (swd x a q) (K + if m = 1 then 1 else 0)) → fGo n s s1 → Fr xs L T0 106 (d - 1) 194 97 [some (rf 73), some (it (cur : Nat)), some (it (m : Nat)), some (it (bt x : Nat)), some (it ((p + 1 : Nat) : Int)), some (it v5)] [] s1 (qv P)) → ∀ (j k : Nat) (s1 : Pl) (M : Nat) (g1 cs1 : Nat → Nat) (v5 : Int), k + j = n → v5 = (k : Nat) → GI w t n m x0 s1 M g1 cs1 dn cur x K → mx n x s1 → (∀ y e, (∃ l, l < 4 ∧ l ≠ bt x ∧ y = rwd x l ∧ ((e : Nat) : Int) = egw w t m (bt x) l) → K + e ≤ 400 → Cov M g1 cs1 y (K + e)) → (∀ a q, (a < p ∨ a = p ∧ q < k) → swp w t n x a q → K + (if m = 1 then 1 else 0) ≤ 400 → Cov M g1 cs1 (swd x a q) (K + if m = 1 then 1 else 0)) → fGo n s s1 → Fr xs L T0 106 (d - 1) 194 109 [some (rf 73), some (it (cur : Nat)), some (it (m : Nat)), some (it (bt x : Nat)), some (it (p : Nat)), some (it v5)] [] s1 (qv P) := by
    intro p hp out j
    have zp : ∀ _ : Unit, zw ((p : Nat) + 1) = ((p + 1 : Nat) : Int) := fun _ => by rw [zw_id (by omega) (by omega)]; omega
    induction j with
    | zero =>
      intro k s1 M g1 cs1 v5 hk9 h2 k1 k2 k3 k4 k5
      refine f194_109 ⟨fun _ => ?_, fun z => absurd (by rw [e703 s1 k5]; omega) z⟩
      rw [zp ()]
      exact out s1 M g1 cs1 _ k1 k2 k3 (fun a q ha hs => k4 a q (by have := hs.1.2; omega) hs) k5
    | succ j ih =>
      intro k s1 M g1 cs1 v5 hk9 h2 k1 k2 k3 k4 k5
      subst h2
      have zk : ∀ _ : Unit, zw ((k : Nat) + 1) = ((k + 1 : Nat) : Int) := fun _ => by rw [zw_id (by omega) (by omega)]; omega
      refine f194_109 ⟨fun z => absurd z (by rw [e703 s1 k5]; omega), fun _ => ?_⟩
      refine i176 (by omega) hk (k5.mst hm) k2 (by omega) (by omega) (fun hs s2 hs2 => ⟨fun _ => ?_, fun z => absurd (by decide) z⟩) (fun hs s2 hs2 => ⟨fun z => absurd rfl z, fun _ => f194_169 ?_⟩)
      · have hpk : p ≠ k := fun e => by have := hs.2.1; rw [e] at this; omega
        have gi2 := k1.of hs2.ml
        refine i177a (by omega) hn hp (by omega) hpk (hs2.mx k2) fun s3 m1 m2 m3 => ?_
        have fg3 : fGo n s2 s3 := fun c i _ _ _ _ _ _ q1 q2 => by
          by_cases e : c = 75
          · subst e; exact m3 i (by have := q1 rfl; omega) (by have := q1 rfl; omega)
          · rw [m2 c e]
        have fall : fGo n s s3 := (k5.trans hs2.fGo).trans fg3
        have gi3 : GI w t n m x0 s3 M g1 cs1 dn cur x K := gi2.of fun v => v.cong (by rw [m2 72 (by decide)]) (m2 93 (by decide)) (m2 94 (by decide)) (m2 95 (by decide)) (m2 96 (by decide))
        obtain ⟨e1, e2⟩ := e92 s3 M g1 cs1 gi3
        rw [e1]
        have nx : ∀ vs : Int, vs = (if m = 1 then 1 else 0 : Nat) → Fr xs L T0 106 (d - 1) 194 157 [some (rf 73), some (it (cur : Nat)), some (it (m : Nat)), some (it (bt x : Nat)), some (it (p : Nat)), some (it (k : Nat))] [it vs, it (K : Nat), rf 73] s3 (qv P) := by
          intro vs hvs
          have hle : (if m = 1 then 1 else 0 : Nat) ≤ 1 := by split <;> omega
          have heE : Eg w t n m x (swd x p k) (if m = 1 then 1 else 0) := Or.inr ⟨p, k, hs, rfl, rfl⟩
          refine f194_157 ?_
          rw [hvs]
          generalize (if m = 1 then 1 else 0 : Nat) = ee at hle heE k4 ih out
          have ez : zw (((K : Nat) : Int) + (ee : Nat)) = ((K + ee : Nat) : Int) := by rw [zw_id (by omega) (by omega)]; omega
          rw [ez]
          refine i193g (by omega) hn (e703 s3 fall) hx0 gi3 m1 heE fun s4 M4 g4 cs4 n1 n2 n3 n4 => ?_
          refine i177b (by omega) hn hp (by omega) hpk hs.2.1.1 hs.2.1.2 (n4.mx m1) fun s5 o1 o2 o3 => f194_169 ?_
          rw [zk ()]
          have fg5 : fGo n s4 s5 := fun c i _ _ _ _ _ _ q1 q2 => by
            by_cases e : c = 75
            · subst e; exact o3 i (by have := q1 rfl; omega) (by have := q1 rfl; omega)
            · rw [o2 c e]
          refine ih (k + 1) s5 M4 g4 cs4 _ (by omega) rfl (n1.of fun v => v.cong (by rw [o2 72 (by decide)]) (o2 93 (by decide)) (o2 94 (by decide)) (o2 95 (by decide)) (o2 96 (by decide))) o1 (fun y e q1 q2 => n2 _ _ (k3 y e q1 q2)) (fun a q q1 q2 q3 => ?_) ((fall.trans n4.fGo).trans fg5)
          by_cases e : a = p ∧ q = k
          · rw [e.1, e.2]; exact n3 q3
          · exact n2 _ _ (k4 a q (by omega) q2 q3)
        refine ⟨by omega, fun z => nx 0 (by rw [if_neg (by omega)]; rfl), fun z => nx 1 (by rw [if_pos (by omega)]; rfl)⟩
      · rw [zk ()]
        refine ih (k + 1) s2 M g1 cs1 _ (by omega) rfl (k1.of hs2.ml) (hs2.mx k2) k3 (fun a q q1 q2 q3 => ?_) (k5.trans hs2.fGo)
        by_cases e : a = p ∧ q = k
        · rw [e.1, e.2] at q2; exact absurd q2 hs
        · exact k4 a q (by omega) q2 q3
  have swo : ∀ (j k : Nat) (s1 : Pl) (M : Nat) (g1 cs1 : Nat → Nat) (v4 : Int) (w5 : Option AV), k + j = n → v4 = (k : Nat) → GI w t n m x0 s1 M g1 cs1 dn cur x K → mx n x s1 → (∀ y e, (∃ l, l < 4 ∧ l ≠ bt x ∧ y = rwd x l ∧ ((e : Nat) : Int) = egw w t m (bt x) l) → K + e ≤ 400 → Cov M g1 cs1 y (K + e)) → (∀ a q, a < k → swp w t n x a q → K + (if m = 1 then 1 else 0) ≤ 400 → Cov M g1 cs1 (swd x a q) (K + if m = 1 then 1 else 0)) → fGo n s s1 → Fr xs L T0 106 (d - 1) 194 97 [some (rf 73), some (it (cur : Nat)), some (it (m : Nat)), some (it (bt x : Nat)), some (it v4), w5] [] s1 (qv P) := by
    intro j
    induction j with
    | zero =>
      intro k s1 M g1 cs1 v4 w5 hk9 h2 k1 k2 k3 k4 k5
      refine f194_97 ⟨fun _ => h s1 M g1 cs1 k1 (fun y e he hl => ?_) k5, fun z => absurd (by rw [e703 s1 k5]; omega) z⟩
      obtain ⟨q1, q2, q3, q4⟩ := k1.2.2.2.2.1
      rw [q3] at he
      rw [q4] at hl ⊢
      rcases he with he | ⟨p, q, r1, rfl, r3⟩
      · exact k3 y e he hl
      · rw [r3] at hl ⊢
        exact k4 p q (by have := r1.1.1; omega) r1 hl
    | succ j ih =>
      intro k s1 M g1 cs1 v4 w5 hk9 h2 k1 k2 k3 k4 k5
      subst h2
      refine f194_97 ⟨fun z => absurd z (by rw [e703 s1 k5]; omega), fun _ => ?_⟩
      exact swl k (by omega) (fun s2 M2 g2 cs2 v5 l1 l2 l3 l4 l5 => ih (k + 1) s2 M2 g2 cs2 _ _ (by omega) rfl l1 l2 l3 l4 l5) n 0 s1 M g1 cs1 _ (by omega) rfl k1 k2 k3 (fun a q ha hs => k4 a q (by omega) hs) k5
  -- the rows
  have rwo : ∀ (j k : Nat) (s1 : Pl) (M : Nat) (g1 cs1 : Nat → Nat) (v4 : Int) (w5 : Option AV) (y0 : Nat), k + j = 4 → v4 = (k : Nat) → GI w t n m x0 s1 M g1 cs1 dn cur x K → mx n y0 s1 → (∀ r, r < n → pl x r = pl y0 r) → (∀ y e, (∃ l, l < k ∧ l ≠ bt x ∧ y = rwd x l ∧ ((e : Nat) : Int) = egw w t m (bt x) l) → K + e ≤ 400 → Cov M g1 cs1 y (K + e)) → fGo n s s1 → Fr xs L T0 106 (d - 1) 194 18 [some (rf 73), some (it (cur : Nat)), some (it (m : Nat)), some (it (bt x : Nat)), some (it v4), w5] [] s1 (qv P) := by
    intro j
    induction j with
    | zero =>
      intro k s1 M g1 cs1 v4 w5 y0 hk9 h2 k1 k2 ky k3 k5
      refine f194_18 ⟨fun _ => ?_, fun z => absurd (by omega) z⟩
      exact swo n 0 _ M g1 cs1 _ _ (by omega) rfl (k1.of b2_ml) (mx_b k2 ky rfl) (fun y e ⟨l, q1, q2⟩ => k3 y e ⟨l, by omega, q2⟩) (fun a q ha => absurd ha (by omega)) (k5.trans (fGo.b2 _))
    | succ j ih =>
      intro k s1 M g1 cs1 v4 w5 y0 hk9 h2 k1 k2 ky k3 k5
      subst h2
      have zk : ∀ _ : Unit, zw ((k : Nat) + 1) = ((k + 1 : Nat) : Int) := fun _ => by rw [zw_id (by omega) (by omega)]; omega
      have kx : mx n x (zup s1 72 2 (bt x : Nat)) := mx_b k2 ky rfl
      have kg : GI w t n m x0 (zup s1 72 2 (bt x : Nat)) M g1 cs1 dn cur x K := k1.of b2_ml
      have kf : fGo n s (zup s1 72 2 (bt x : Nat)) := k5.trans (fGo.b2 _)
      have nx : ∀ (s2 : Pl) (vs : Int), kG (zup s1 72 2 (bt x : Nat)) s2 → k ≠ bt x → vs = egw w t m (bt x) k → Fr xs L T0 106 (d - 1) 194 62 [some (rf 73), some (it (cur : Nat)), some (it (m : Nat)), some (it (bt x : Nat)), some (it (k : Nat)), w5] [it vs] s2 (qv P) := by
        intro s2 vs hs2 hkb hvs
        have hr := egw_rng w t m (bt x) k
        obtain ⟨ee, hee⟩ : ∃ ee : Nat, egw w t m (bt x) k = (ee : Nat) := ⟨(egw w t m (bt x) k).toNat, by omega⟩
        have gi2 := kg.of hs2.ml
        have gi3 : GI w t n m x0 (zup s2 72 2 (k : Nat)) M g1 cs1 dn cur x K := gi2.of b2_ml
        obtain ⟨e1, e2⟩ := e92 _ M g1 cs1 gi3
        refine f194_62 ⟨by omega, ?_⟩
        rw [e1, hvs, hee]
        have ez : zw (((K : Nat) : Int) + (ee : Nat)) = ((K + ee : Nat) : Int) := by rw [zw_id (by omega) (by omega)]; omega
        rw [ez]
        have fall : fGo n s (zup s2 72 2 (k : Nat)) := (kf.trans hs2.fGo).trans (fGo.b2 _)
        have mxr := mx_rwd (l := k) hn (by omega) (hs2.mx kx)
        refine i193g (by omega) hn (e703 _ fall) hx0 gi3 mxr (Or.inl ⟨k, by omega, hkb, rfl, hee.symm⟩) fun s4 M4 g4 cs4 n1 n2 n3 n4 => f194_83 ?_
        rw [zk ()]
        refine ih (k + 1) s4 M4 g4 cs4 _ _ (rwd x k) (by omega) rfl n1 (n4.mx mxr) (fun r hr9 => by rw [rwd_pl (by omega) (by omega)]) (fun y e ⟨l, q1, q2, q3, q4⟩ q5 => ?_) (fall.trans n4.fGo)
        by_cases e : l = k
        · subst e
          rw [hee] at q4
          have : e = ee := by omega
          rw [q3, this]
          exact n3 (by rw [← this]; exact q5)
        · exact n2 _ _ (k3 y _ ⟨l, by omega, q2, q3, q4⟩ q5)
      refine f194_18 ⟨fun z => absurd z (by omega), fun _ => ⟨fun hkb => ⟨fun hm0 => ⟨fun hm2 => nx _ 0 (kG.refl _) (by omega) ?_, fun hm2 => nx _ 1 (kG.refl _) (by omega) ?_⟩, fun hm0 => ?_⟩, fun hkb => f194_83 ?_⟩⟩
      · unfold egw; rw [if_neg (by omega), if_neg (by omega)]
      · unfold egw; rw [if_neg (by omega), if_pos (by omega)]
      · have hm0 : m = 0 := by omega
        refine i165w (by omega) hk (kf.mst hm) hbx (by omega) fun s2 hs2 => nx s2 _ hs2 (by omega) ?_
        unfold egw; rw [if_pos hm0]
      · rw [zk ()]
        refine ih (k + 1) _ M g1 cs1 _ _ x (by omega) rfl kg kx (fun _ _ => rfl) (fun y e ⟨l, q1, q2, q3, q4⟩ q5 => ?_) kf
        exact k3 y e ⟨l, by omega, q2, q3, q4⟩ q5
  refine e194 (by omega) (f194_0 ⟨by omega, ?_⟩)
  rw [e91]
  refine i192 (by omega) hn hm.2.2.1.2 fun s1 k1 k2 => ?_
  rw [k1.1]
  exact rwo 4 0 s1 N g cs _ _ x rfl rfl (gi.of k2.ml) k1 (fun _ _ => rfl) (fun y e ⟨l, q1, _⟩ => absurd q1 (by omega)) k2.fGo
