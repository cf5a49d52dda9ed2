/-! what the reference reads off its list of states -/
theorem btn_sub {f g : Nat → Bool} {n : Nat} (hn : n ≤ 6) : zand (btn f n : Nat) (btn g n : Nat) = (btn g n : Nat) ↔ ∀ p, p < n → g p = true → f p = true := by
  rw [zand_sub (btn_lt64 _ hn) (btn_lt64 _ hn)]
  constructor
  · intro h p hp hg
    have := h p (by omega) (by rw [btn_bit]; simp [hp, hg])
    rw [btn_bit] at this
    simpa [hp] using this
  · intro h p hp hg
    rw [btn_bit] at hg ⊢
    simp at hg
    simp [hg.1, h p hg.1 hg.2]
def thV (w : Pl) (x p : Nat) : Bool := uA (w 3 p) 3 || decide (((pl x p : Nat) : Int) = w 4 p)
theorem QT_th {w : Pl} {n : Nat} (S : Nat → Bool) (y : Nat) : QT w n S y ↔ ∀ p, p < n → S p = true → thV w y p = true := by
  unfold QT thV
  constructor
  · intro h p hp hS
    cases hu : uA (w 3 p) 3 with
    | true => rfl
    | false => simpa using h p hp hS hu
  · intro h p hp hS hu
    have := h p hp hS
    rw [hu] at this
    simpa using this
def fKp (n : Nat) (s s1 : Pl) : Prop := ∀ c i, c ≠ 85 → c ≠ 86 → (c = 75 → i < 0 ∨ ((n : Nat) : Int) ≤ i) → (c = 72 → i ≠ 2) → s1 c i = s c i
theorem fKp.refl (n : Nat) (s : Pl) : fKp n s s := fun _ _ _ _ _ _ => rfl
theorem fKp.trans {n : Nat} {s s1 s2 : Pl} (h : fKp n s s1) (h2 : fKp n s1 s2) : fKp n s s2 := fun c i a b e f => by rw [h2 c i a b e f, h c i a b e f]
theorem fBe.fKp {n : Nat} {s s1 : Pl} (h : fBe n s s1) : fKp n s s1 := fun c i _ _ a b => h c i a b
theorem kG.fKp {n : Nat} {s s1 : Pl} (h : kG s s1) : fKp n s s1 := fun c i a b _ _ => h c i a b
theorem fKp.mst {n n2 : Nat} {w s s1 : Pl} {t : Nat} (h : fKp n s s1) (v : Mst w t n2 s) : Mst w t n2 s1 := cMst (fun c i hm => by have := mMs_out hm; exact h c i (by omega) (by omega) (by omega) (by omega)) v
theorem fKp.sol {w : Pl} {t n m x0 n2 : Nat} {s s1 : Pl} (h : fKp n2 s s1) (v : SolM w t n m x0 s) : SolM w t n m x0 s1 := by
  unfold SolM at *
  rw [h 72 37 (by decide) (by decide) (fun e => absurd e (by decide)) (by decide), show s1 93 = s 93 from funext fun i => h 93 i (by decide) (by decide) (fun e => absurd e (by decide)) (fun e => absurd e (by decide)), show s1 94 = s 94 from funext fun i => h 94 i (by decide) (by decide) (fun e => absurd e (by decide)) (fun e => absurd e (by decide))]
  exact v
def fRk (s s1 : Pl) : Prop := ∀ c i, c ≠ 85 → c ≠ 86 → c ≠ 92 → (c = 72 → i ≠ 34) → s1 c i = s c i
/-- kept: where all were -/
def kept9 (s s1 : Pl) : Prop := s1 72 34 = s 72 2 ∧ (∀ i : Int, 0 ≤ i → i < 6 → s1 92 i = s 75 i) ∧ ∀ c i, c ≠ 92 → (c = 72 → i ≠ 34) → s1 c i = s c i
variable {xs : Nat → Int} {L : Nat} {d : Nat} {s : Pl}
theorem i180 {w : Pl} {t n x p : Nat} {P : Int → Pl → Prop} (hd : 1 ≤ d) (hn : n ≤ 6) (hm : Mst w t n s) (hx : mx n x s) (hp : p < n) (h1 : thV w x p = true → P 1 s) (h0 : ¬ thV w x p = true → P 0 s) : Ev xs L T0 106 d 180 [rf 73, it (p : Nat)] s (qi P) := by
  obtain ⟨a1, a2, _⟩ := hm.2.2.2.1 p hp
  refine e180 hd (f180_0 ?_)
  rw [a1, a2, hx.2 p hp]
  unfold thV at h1 h0
  rw [uA3] at h1 h0
  refine ⟨by omega, fun b => f180_35 (h1 (by simp [b])), fun b => ⟨by omega, fun c => f180_35 (h1 (by simp [c])), fun c => ⟨by omega, by omega, fun e => h0 (by simp [b, c, e]), fun e => f180_35 (h1 (by simp [Classical.not_not.mp e]))⟩⟩⟩
theorem i181 {w : Pl} {t n x : Nat} {P : Int → Pl → Prop} (hd : 2 ≤ d) (hn : n ≤ 6) (hm : Mst w t n s) (hx : mx n x s) (h : P ((btn (thV w x) n : Nat) : Int) s) : Ev xs L T0 106 d 181 [rf 73] s (qi P) := by
  have e3 := hm.2.2.1.2
  have l : ∀ (j k : Nat) (v1 v2 : Int), k + j = n → v2 = (k : Nat) → v1 = ((btn (thV w x) k : Nat) : Int) → Fr xs L T0 106 (d - 1) 181 4 [some (rf 73), some (it v1), some (it v2)] [] s (qi P) := by
    intro j
    induction j with
    | zero =>
      intro k v1 v2 hk h2 h1
      have e : k = n := by omega
      subst e
      exact f181_4 ⟨fun _ => by rw [h1]; exact h, fun z => absurd (by omega) z⟩
    | succ j ih =>
      intro k v1 v2 hk h2 h1
      subst h2
      have zk : ∀ _ : Unit, zw ((k : Nat) + 1) = ((k + 1 : Nat) : Int) := fun _ => by rw [zw_id (by omega) (by omega)]; omega
      refine f181_4 ⟨fun z => absurd z (by omega), fun _ => i180 (by omega) hn hm hx (by omega) (fun g => ⟨fun z => absurd z (by decide), fun _ => f181_26 ?_⟩) (fun g => ⟨fun _ => f181_26 ?_, fun z => absurd rfl z⟩)⟩
      · rw [zk ()]
        refine ih (k + 1) _ _ (by omega) rfl ?_
        rw [h1, zor_bitL k (by omega) _ (btn_lt _ k)]
        simp only [btn]
        rw [if_pos g]
      · rw [zk ()]
        refine ih (k + 1) _ _ (by omega) rfl ?_
        rw [h1]
        simp only [btn]
        rw [if_neg g]; rfl
  exact e181 (by omega) (f181_0 (l n 0 _ _ (by omega) rfl rfl))
theorem i184 {P : Pl → Prop} (hd : 1 ≤ d) (h : ∀ s1 : Pl, kept9 s s1 → P s1) : Ev xs L T0 106 d 184 [rf 73] s (qv P) := by
  have l : ∀ (j k : Nat) (s1 : Pl) (v1 : Int), k + j = 6 → v1 = (k : Nat) → s1 72 34 = s 72 2 → (∀ i : Int, 0 ≤ i → i < (k : Nat) → s1 92 i = s 75 i) → (∀ c i, c ≠ 92 → (c = 72 → i ≠ 34) → s1 c i = s c i) → Fr xs L T0 106 (d - 1) 184 10 [some (rf 73), some (it v1)] [] s1 (qv P) := by
    intro j
    induction j with
    | zero => intro k s1 v1 hk h2 g1 g2 g3; exact f184_10 ⟨fun _ => h s1 ⟨g1, fun i a b => g2 i a (by omega), g3⟩, fun z => absurd (by omega) z⟩
    | succ j ih =>
      intro k s1 v1 hk h2 g1 g2 g3
      subst h2
      refine f184_10 ⟨fun z => absurd z (by omega), fun _ => ⟨by omega, by omega, ?_⟩⟩
      refine ih (k + 1) _ _ (by omega) (by rw [zw_id (by omega) (by omega)]; omega) (by rw [zune _ _ _ (by decide)]; exact g1) (fun i a b => ?_) (fun c i a b => by rw [zune _ _ _ a]; exact g3 c i a b)
      rw [zg]
      by_cases e : i = (k : Nat)
      · rw [if_pos ⟨rfl, e⟩, g3 75 _ (by decide) (fun q => absurd q (by decide)), e]
      · rw [if_neg (fun q => e q.2)]; exact g2 i a (by omega)
  refine e184 hd (f184_0 (l 6 0 _ _ rfl rfl ?_ (fun i a b => absurd a (by omega)) (fun c i a b => ?_)))
  · rw [zg, if_pos ⟨rfl, rfl⟩]
  · rw [zg, if_neg (fun q => b q.1 q.2)]
theorem i185 {P : Pl → Prop} (hd : 1 ≤ d) (h : ∀ s1 : Pl, s1 72 2 = s 72 34 → (∀ i : Int, 0 ≤ i → i < 6 → s1 75 i = s 92 i) → (∀ c i, (c = 75 → i < 0 ∨ 6 ≤ i) → (c = 72 → i ≠ 2) → s1 c i = s c i) → P s1) : Ev xs L T0 106 d 185 [rf 73] s (qv P) := by
  have l : ∀ (j k : Nat) (s1 : Pl) (v1 : Int), k + j = 6 → v1 = (k : Nat) → s1 72 2 = s 72 34 → (∀ i : Int, 0 ≤ i → i < (k : Nat) → s1 75 i = s 92 i) → (∀ c i, (c = 75 → i < 0 ∨ ((k : Nat) : Int) ≤ i) → (c = 72 → i ≠ 2) → s1 c i = s c i) → Fr xs L T0 106 (d - 1) 185 10 [some (rf 73), some (it v1)] [] s1 (qv P) := by
    intro j
    induction j with
    | zero => intro k s1 v1 hk h2 g1 g2 g3; exact f185_10 ⟨fun _ => h s1 g1 (fun i a b => g2 i a (by omega)) (fun c i a b => g3 c i (fun e => by have := a e; omega) b), fun z => absurd (by omega) z⟩
    | succ j ih =>
      intro k s1 v1 hk h2 g1 g2 g3
      subst h2
      refine f185_10 ⟨fun z => absurd z (by omega), fun _ => ⟨by omega, by omega, ?_⟩⟩
      refine ih (k + 1) _ _ (by omega) (by rw [zw_id (by omega) (by omega)]; omega) (by rw [zune _ _ _ (by decide)]; exact g1) (fun i a b => ?_) (fun c i a b => ?_)
      · rw [zg]
        by_cases e : i = (k : Nat)
        · rw [if_pos ⟨rfl, e⟩, g3 92 _ (fun q => absurd q (by decide)) (fun q => absurd q (by decide)), e]
        · rw [if_neg (fun q => e q.2)]; exact g2 i a (by omega)
      · rw [zg, if_neg (fun q => by have := a q.1; omega)]
        exact g3 c i (fun e => by have := a e; omega) b
  refine e185 hd (f185_0 (l 6 0 _ _ rfl rfl ?_ (fun i a b => absurd a (by omega)) (fun c i a b => ?_)))
  · rw [zg, if_pos ⟨rfl, rfl⟩]
  · rw [zg, if_neg (fun q => b q.1 q.2)]
theorem i185k {n : Nat} {s3 s4 : Pl} {P : Pl → Prop} (hd : 1 ≤ d) (hn : n ≤ 6) (hk : kept9 s3 s4) (hf : fKp n s4 s) (h : ∀ s2 : Pl, fRk s3 s2 → P s2) : Ev xs L T0 106 d 185 [rf 73] s (qv P) := by
  obtain ⟨k1, k2, k3⟩ := hk
  refine i185 hd fun s1 g1 g2 g3 => h s1 fun c i a b e f => ?_
  by_cases e1 : c = 75 ∧ 0 ≤ i ∧ i < 6
  · rw [e1.1, g2 i e1.2.1 e1.2.2, hf 92 i (by decide) (by decide) (fun q => absurd q (by decide)) (fun q => absurd q (by decide)), k2 i e1.2.1 e1.2.2]
  · by_cases e2 : c = 72 ∧ i = 2
    · rw [e2.1, e2.2, g1, hf 72 34 (by decide) (by decide) (fun q => absurd q (by decide)) (by decide), k1]
    · rw [g3 c i (fun q => by omega) (fun q q2 => e2 ⟨q, q2⟩), hf c i a b (fun q => by omega) (fun q q2 => e2 ⟨q, q2⟩), k3 c i e f]
/-- the least of a list's first k -/
def lsM (Q : Nat → Prop) (g cs : Nat → Nat) (k : Nat) (r : Int) : Prop := (r = -1 ∧ ∀ i, i < k → ¬ Q (g i)) ∨ ∃ i, i < k ∧ Q (g i) ∧ r = (cs i : Nat) ∧ ∀ j, j < k → Q (g j) → cs i ≤ cs j
theorem lsM.lst {w : Pl} {t n m x0 N : Nat} {Q : Nat → Prop} {g cs : Nat → Nat} {r : Int} (h : lsM Q g cs N r) (hs : ∀ y k, DD w t n m x0 400 y k ↔ ∃ i, i < N ∧ g i = y ∧ cs i = k) : lst w t n m x0 400 Q r := by
  rcases h with ⟨rfl, h⟩ | ⟨i, h1, h2, rfl, h3⟩
  · refine Or.inl ⟨rfl, fun y k hd => ?_⟩
    obtain ⟨i, q1, q2, _⟩ := (hs y k).mp hd
    rw [← q2]; exact h i q1
  · refine Or.inr ⟨cs i, rfl, ⟨g i, (hs _ _).mpr ⟨i, h1, rfl, rfl⟩, h2⟩, fun y j hd hq => ?_⟩
    obtain ⟨i2, q1, q2, q3⟩ := (hs y j).mp hd
    rw [← q3]
    exact h3 i2 q1 (by rw [q2]; exact hq)
theorem lsM.skip {Q : Nat → Prop} {g cs : Nat → Nat} {k : Nat} {r : Int} (h : lsM Q g cs k r) (hk : ¬ Q (g k) ∨ (0 ≤ r ∧ r ≤ (cs k : Nat))) : lsM Q g cs (k + 1) r := by
  rcases h with ⟨rfl, h⟩ | ⟨i, h1, h2, rfl, h3⟩
  · refine Or.inl ⟨rfl, fun i hi => ?_⟩
    by_cases e : i = k
    · subst e
      exact hk.elim id fun q => absurd q.1 (by decide)
    · exact h i (by omega)
  · refine Or.inr ⟨i, by omega, h2, rfl, fun j hj hq => ?_⟩
    by_cases e : j = k
    · subst e
      rcases hk with q | q
      · exact absurd hq q
      · omega
    · exact h3 j (by omega) hq
theorem lsM.take {Q : Nat → Prop} {g cs : Nat → Nat} {k : Nat} {r : Int} (h : lsM Q g cs k r) (hq : Q (g k)) (hk : r < 0 ∨ ((cs k : Nat) : Int) < r) : lsM Q g cs (k + 1) (cs k : Nat) := by
  refine Or.inr ⟨k, by omega, hq, rfl, fun j hj hq2 => ?_⟩
  by_cases e : j = k
  · subst e; exact Nat.le_refl _
  · rcases h with ⟨rfl, h⟩ | ⟨i, h1, h2, rfl, h3⟩
    · exact absurd hq2 (h j (by omega))
    · have := h3 j (by omega) hq2
      omega
theorem l199 {w : Pl} {t n m x0 p : Nat} {s3 s4 : Pl} {P : Int → Pl → Prop} (hd : 1 ≤ d) (hk : wOk w t n) (hm : Mst w t n s4) (hp : p < n) (hs : SolM w t n m x0 s4) (hkp : kept9 s3 s4) (h : ∀ (r : Int) (s2 : Pl), lst w t n m x0 400 (fun y => ((pl y p : Nat) : Int) = w 4 p) r → fRk s3 s2 → P r s2) : Fr xs L T0 106 d 199 24 [some (rf 73), some (it (p : Nat)), some (it (-1)), some (it 0)] [] s4 (qi P) := by
  have hn := hk.1.2
  have hs9 := hs
  obtain ⟨N, g, cs, ⟨a1, a2⟩, a3, a4, a5, a6⟩ := hs
  have l : ∀ (j k : Nat) (s1 : Pl) (v2 v3 : Int), k + j = N → v3 = (k : Nat) → fKp n s4 s1 → lsM (fun y => ((pl y p : Nat) : Int) = w 4 p) g cs k v2 → Fr xs L T0 106 d 199 24 [some (rf 73), some (it (p : Nat)), some (it v2), some (it v3)] [] s1 (qi P) := by
    intro j
    induction j with
    | zero =>
      intro k s1 v2 v3 hk9 h3 hf hl
      have e : k = N := by omega
      subst e
      refine f199_24 ⟨fun _ => i185k hd hn hkp hf fun s2 hs2 => h v2 s2 (hl.lst a6) hs2, fun z => absurd ?_ z⟩
      rw [hf 72 37 (by decide) (by decide) (fun e => absurd e (by decide)) (by decide), a1]; omega
    | succ j ih =>
      intro k s1 v2 v3 hk9 h3 hf hl
      subst h3
      have zk : ∀ _ : Unit, zw ((k : Nat) + 1) = ((k + 1 : Nat) : Int) := fun _ => by rw [zw_id (by omega) (by omega)]; omega
      have e37 : s1 72 37 = (N : Nat) := by rw [hf 72 37 (by decide) (by decide) (fun e => absurd e (by decide)) (by decide)]; exact a1
      have e91 : s1 93 ((k : Nat) : Int) = (mcd (g k) n : Nat) := by rw [hf 93 _ (by decide) (by decide) (fun e => absurd e (by decide)) (fun e => absurd e (by decide))]; exact (a3 k (by omega)).1
      have hm1 := hf.mst hm
      refine f199_24 ⟨fun z => absurd z (by omega), fun _ => ⟨by omega, ?_⟩⟩
      rw [e91]
      refine i192 hd hn hm1.2.2.1.2 fun s2 k1 k2 => ?_
      have hf2 := hf.trans k2.fKp
      have hm2 := hf2.mst hm
      have e92 : s2 94 ((k : Nat) : Int) = (cs k : Nat) := by rw [hf2 94 _ (by decide) (by decide) (fun e => absurd e (by decide)) (fun e => absurd e (by decide))]; exact (a3 k (by omega)).2.1
      rw [k1.2 p hp, (hm2.2.2.2.1 p hp).2.1, e92]
      have take : ((pl (g k) p : Nat) : Int) = w 4 p → (v2 < 0 ∨ ((cs k : Nat) : Int) < v2) → Fr xs L T0 106 d 199 71 [some (rf 73), some (it (p : Nat)), some (it v2), some (it (k : Nat))] [] s2 (qi P) := fun q1 q2 => f199_71 ⟨by omega, f199_78 (by
        rw [zk (), e92]
        exact ih (k + 1) s2 _ _ (by omega) rfl hf2 (hl.take q1 q2))⟩
      refine ⟨by omega, by omega, fun z => f199_78 ?_, fun z => ?_⟩
      · rw [zk ()]
        exact ih (k + 1) s2 _ _ (by omega) rfl hf2 (hl.skip (Or.inl z))
      · have z := Classical.not_not.mp z
        refine ⟨fun q => take z (Or.inl q), fun q => ⟨by omega, fun q2 => f199_78 ?_, fun q2 => take z (Or.inr (by omega))⟩⟩
        rw [zk ()]
        exact ih (k + 1) s2 _ _ (by omega) rfl hf2 (hl.skip (Or.inr ⟨by omega, q2⟩))
  exact l N 0 s4 _ _ (by omega) rfl (fKp.refl n s4) (Or.inl ⟨rfl, fun i hi => absurd hi (by omega)⟩)
theorem i196 {w : Pl} {t n m x0 : Nat} {S : Nat → Bool} {v1 : Int} {P : Int → Pl → Prop} (hd : 3 ≤ d) (hk : wOk w t n) (hm : Mst w t n s) (hs : SolM w t n m x0 s) (hv : zand (zw (zshl 1 (n : Nat) - 1)) (zxor v1 (-1)) = (btn S n : Nat)) (h : ∀ (r : Int) (s2 : Pl), lst w t n m x0 400 (QT w n S) r → (∀ c i, c ≠ 97 → s2 c i = s c i) → P r s2) : Ev xs L T0 106 d 196 [rf 73, it v1] s (qi P) := by
  have hn := hk.1.2
  obtain ⟨N, g, cs, ⟨a1, a2⟩, a3, a4, a5, a6⟩ := hs
  have e703 : s 72 3 = (n : Nat) := hm.2.2.1.2
  -- the end: all is laid back
  have back : ∀ (r : Int), lst w t n m x0 400 (QT w n S) r → ∀ (j k : Nat) (s1 : Pl) (v2 v5 : Int), k + j = n → v5 = (k : Nat) → (∀ c i, c ≠ 97 → (c = 75 → ((k : Nat) : Int) ≤ i ∧ i < (n : Nat) → False) → (c = 72 → i ≠ 2) → s1 c i = s c i) → (∀ q : Nat, q < n → s1 97 ((q : Nat) : Int) = s 75 ((q : Nat) : Int)) → Fr xs L T0 106 (d - 1) 196 121 [some (rf 73), some (it v1), some (it v2), some (it r), some (it (s 72 2)), some (it v5)] [] s1 (qi P) := by
    intro r hr j
    induction j with
    | zero =>
      intro k s1 v2 v5 hk9 h5 g1 g2
      refine f196_121 ⟨fun _ => h r _ hr fun c i hc => ?_, fun z => absurd ?_ z⟩
      · rw [zg]
        by_cases e : c = 72 ∧ i = 2
        · rw [if_pos e, e.1, e.2]
        · rw [if_neg e]; exact g1 c i hc (fun _ q => by omega) (fun q q2 => e ⟨q, q2⟩)
      · rw [g1 72 3 (by decide) (fun q => absurd q (by decide)) (by decide), e703]; omega
    | succ j ih =>
      intro k s1 v2 v5 hk9 h5 g1 g2
      subst h5
      refine f196_121 ⟨fun z => absurd z (by rw [g1 72 3 (by decide) (fun q => absurd q (by decide)) (by decide), e703]; omega), fun _ => ⟨by omega, by omega, ?_⟩⟩
      refine ih (k + 1) _ _ _ (by omega) (by rw [zw_id (by omega) (by omega)]; omega) (fun c i q1 q2 q3 => ?_) (fun q hq => by rw [zune _ _ _ (by decide)]; exact g2 q hq)
      rw [zg]
      by_cases e : c = 75 ∧ i = (k : Nat)
      · rw [if_pos e, e.1, e.2]; exact g2 k (by omega)
      · rw [if_neg e]; exact g1 c i q1 (fun e1 e2 => q2 e1 (by omega)) q3
  have main : ∀ (sA : Pl), (∀ c i, c ≠ 97 → sA c i = s c i) → (∀ q : Nat, q < n → sA 97 ((q : Nat) : Int) = s 75 ((q : Nat) : Int)) → ∀ (j k : Nat) (s1 : Pl) (v3 v5 : Int), k + j = N → v5 = (k : Nat) → fBe n sA s1 → lsM (QT w n S) g cs k v3 → Fr xs L T0 106 (d - 1) 196 56 [some (rf 73), some (it v1), some (it (btn S n : Nat)), some (it v3), some (it (s 72 2)), some (it v5)] [] s1 (qi P) := by
    intro sA hA h95 j
    have hmA : Mst w t n sA := cMst (fun c i hm => by have := mMs_out hm; exact hA c i (by omega)) hm
    induction j with
    | zero =>
      intro k s1 v3 v5 hk9 h5 hf hl
      have e : k = N := by omega
      subst e
      refine f196_56 ⟨fun _ => back v3 (hl.lst a6) n 0 s1 _ _ (by omega) rfl (fun c i q1 q2 q3 => ?_) (fun q hq => ?_), fun z => absurd ?_ z⟩
      · rw [hf c i (fun e => Classical.byContradiction fun z => q2 e (by omega)) q3]; exact hA c i q1
      · rw [hf 97 _ (fun e => absurd e (by decide)) (fun e => absurd e (by decide))]; exact h95 q hq
      · rw [hf 72 37 (fun e => absurd e (by decide)) (by decide), hA 72 37 (by decide), a1]; omega
    | succ j ih =>
      intro k s1 v3 v5 hk9 h5 hf hl
      subst h5
      have zk : ∀ _ : Unit, zw ((k : Nat) + 1) = ((k + 1 : Nat) : Int) := fun _ => by rw [zw_id (by omega) (by omega)]; omega
      have e37 : s1 72 37 = (N : Nat) := by rw [hf 72 37 (fun e => absurd e (by decide)) (by decide), hA 72 37 (by decide)]; exact a1
      have e92 : ∀ s2, fBe n sA s2 → s2 94 ((k : Nat) : Int) = (cs k : Nat) := fun s2 h2 => by rw [h2 94 _ (fun e => absurd e (by decide)) (fun e => absurd e (by decide)), hA 94 _ (by decide)]; exact (a3 k (by omega)).2.1
      have e91 : s1 93 ((k : Nat) : Int) = (mcd (g k) n : Nat) := by rw [hf 93 _ (fun e => absurd e (by decide)) (fun e => absurd e (by decide)), hA 93 _ (by decide)]; exact (a3 k (by omega)).1
      have hm1 := hf.fKp.mst hmA
      have skip : ∀ s2 : Pl, fBe n sA s2 → ¬ QT w n S (g k) ∨ (0 ≤ v3 ∧ v3 ≤ (cs k : Nat)) → Fr xs L T0 106 (d - 1) 196 112 [some (rf 73), some (it v1), some (it (btn S n : Nat)), some (it v3), some (it (s 72 2)), some (it (k : Nat))] [] s2 (qi P) := fun s2 h2 q => f196_112 (by
        rw [zk ()]
        exact ih (k + 1) s2 _ _ (by omega) rfl h2 (hl.skip q))
      have look : (v3 < 0 ∨ ((cs k : Nat) : Int) < v3) → Fr xs L T0 106 (d - 1) 196 83 [some (rf 73), some (it v1), some (it (btn S n : Nat)), some (it v3), some (it (s 72 2)), some (it (k : Nat))] [] s1 (qi P) := by
        intro q
        refine f196_83 ⟨by omega, ?_⟩
        rw [e91]
        refine i192 (by omega) hn hm1.2.2.1.2 fun s2 k1 k2 => ?_
        have hf2 : fBe n sA s2 := fun c i b1 b2 => by rw [k2 c i b1 b2, hf c i b1 b2]
        refine i181 (by omega) hn (hf2.fKp.mst hmA) k1 ?_
        rw [btn_sub hn, e92 s2 hf2]
        refine ⟨fun z => skip s2 hf2 (Or.inl fun hq => z ((QT_th S _).mp hq)), fun z => ⟨by omega, f196_112 ?_⟩⟩
        rw [zk ()]
        exact ih (k + 1) s2 _ _ (by omega) rfl hf2 (hl.take ((QT_th S _).mpr (Classical.not_not.mp z)) q)
      refine f196_56 ?_
      rw [e92 s1 hf]
      refine ⟨fun z => absurd z (by omega), fun _ => ⟨fun q => look (Or.inl q), fun q => ⟨by omega, fun q2 => look (Or.inr q2), fun q2 => skip s1 hf (Or.inr ⟨by omega, by omega⟩)⟩⟩⟩
  have save : ∀ (j k : Nat) (s1 : Pl) (v4 : Int), k + j = n → v4 = (k : Nat) → (∀ c i, c ≠ 97 → s1 c i = s c i) → (∀ q : Nat, q < k → s1 97 ((q : Nat) : Int) = s 75 ((q : Nat) : Int)) → Fr xs L T0 106 (d - 1) 196 18 [some (rf 73), some (it v1), some (it (btn S n : Nat)), some (it (-1)), some (it v4), none] [] s1 (qi P) := by
    intro j
    induction j with
    | zero =>
      intro k s1 v4 hk9 h4 g1 g2
      refine f196_18 ⟨fun _ => ?_, fun z => absurd (by rw [g1 72 3 (by decide), e703]; omega) z⟩
      rw [g1 72 2 (by decide)]
      exact main s1 g1 (fun q hq => g2 q (by omega)) N 0 s1 _ _ (by omega) rfl (fun _ _ _ _ => rfl) (Or.inl ⟨rfl, fun i hi => absurd hi (by omega)⟩)
    | succ j ih =>
      intro k s1 v4 hk9 h4 g1 g2
      subst h4
      refine f196_18 ⟨fun z => absurd z (by rw [g1 72 3 (by decide), e703]; omega), fun _ => ⟨by omega, by omega, ?_⟩⟩
      refine ih (k + 1) _ _ (by omega) (by rw [zw_id (by omega) (by omega)]; omega) (fun c i hc => by rw [zune _ _ _ hc]; exact g1 c i hc) (fun q hq => ?_)
      rw [zg]
      by_cases e : q = k
      · subst e; rw [if_pos ⟨rfl, rfl⟩, g1 75 _ (by decide)]
      · rw [if_neg (fun z => e (by omega))]; exact g2 q (by omega)
  refine e196 (by omega) (f196_0 ?_)
  rw [e703, hv]
  exact save n 0 s _ (by omega) rfl (fun _ _ _ => rfl) (fun q hq => absurd hq (by omega))
