/-! bits of an int, also its highest -/
def sb (v : Int) (j : Nat) : Bool := (BitVec.ofInt 32 v).getLsbD j
theorem bv_toI (v : Int) : (Int32.ofInt v).toBitVec = BitVec.ofInt 32 v := Int32.toBitVec_ofInt v
theorem bv_shl {j : Nat} (hj : j < 32) : BitVec.ofInt 32 (zshl 1 (j : Nat)) = BitVec.twoPow 32 j := by
  unfold zshl
  rw [← bv_toI, Int32.ofInt_toInt, Int32.toBitVec_shiftLeft, BitVec.shiftLeft_eq', shr_k j hj]
  rfl
theorem bv_I (x : Int32) : BitVec.ofInt 32 x.toInt = x.toBitVec := by rw [← bv_toI, Int32.ofInt_toInt]
theorem bv_and (a c : Int) : BitVec.ofInt 32 (zand a c) = BitVec.ofInt 32 a &&& BitVec.ofInt 32 c := by
  unfold zand
  rw [bv_I, Int32.toBitVec_and, bv_toI, bv_toI]
theorem bv_or (a c : Int) : BitVec.ofInt 32 (zor a c) = BitVec.ofInt 32 a ||| BitVec.ofInt 32 c := by
  unfold zor
  rw [bv_I, Int32.toBitVec_or, bv_toI, bv_toI]
theorem zand_sb {v : Int} {j : Nat} (hj : j < 32) : zand v (zshl 1 (j : Nat)) = 0 ↔ sb v j = false := by
  have h1 : zand v (zshl 1 (j : Nat)) = 0 ↔ BitVec.ofInt 32 (zand v (zshl 1 (j : Nat))) = 0#32 := by
    unfold zand
    rw [bv_I]
    rw [← Int32.toInt_toBitVec]
    constructor
    · intro h
      have : (0 : Int) = (0#32 : BitVec 32).toInt := by decide
      rw [this] at h
      exact BitVec.toInt_inj.mp h
    · intro h
      rw [h]
      decide
  rw [h1, bv_and, bv_shl hj, BitVec.and_twoPow]
  unfold sb
  cases h : (BitVec.ofInt 32 v).getLsbD j with
  | false => simp
  | true =>
    simp only [if_true]
    constructor
    · intro h2
      have h3 : (BitVec.twoPow 32 j).getLsbD j = true := by rw [BitVec.getLsbD_twoPow]; simp [hj]
      rw [h2] at h3
      simp at h3
    · intro h2
      cases h2
theorem zor_sb {v : Int} {i j : Nat} (hj : j < 32) (hi : i < 32) : sb (zor v (zshl 1 (j : Nat))) i = (sb v i || decide (j = i)) := by
  unfold sb
  rw [bv_or, bv_shl hj, BitVec.getLsbD_or, BitVec.getLsbD_twoPow]
  simp [hi, hj]
theorem sb_zero (j : Nat) : sb 0 j = false := by
  unfold sb
  have : BitVec.ofInt 32 0 = 0#32 := by decide
  rw [this]
  simp
/-! the class's list of states -/
def awV (w : Pl) (n x : Nat) : Nat := btn (fun r => decide (((pl x r : Nat) : Int) = w 4 r)) n
def CS (w : Pl) (n : Nat) (R : Nat → Prop) (s : Pl) (N : Nat) (f : Nat → Nat) (dn : Nat) : Prop :=
  (s 64 4 = (N : Nat) ∧ N ≤ 1440) ∧ (∀ i : Nat, i < N → s 66 (i : Nat) = ((f i + (if i < dn then 65536 * awV w n (f i) else 0) : Nat) : Int)) ∧ (∀ y : Nat, y < 62500 → (sb (s 65 ((y / 32 : Nat) : Int)) (y % 32) = true ↔ ∃ i, i < N ∧ f i = y)) ∧ inj9 f N ∧ ∀ i, i < N → R (f i)
def Rok (R : Nat → Prop) : Prop := (∀ y, R y → y < 62500) ∧ ∀ (N : Nat) (f : Nat → Nat), inj9 f N → (∀ i, i < N → R (f i)) → N ≤ 1440
def Gro (S : Nat → Prop) (f : Nat → Nat) (N : Nat) (g : Nat → Nat) (M : Nat) : Prop := N ≤ M ∧ (∀ i, i < N → g i = f i) ∧ ∀ i, N ≤ i → i < M → S (g i)
theorem Gro.refl (S : Nat → Prop) (f : Nat → Nat) (N : Nat) : Gro S f N f N := ⟨Nat.le_refl _, fun _ _ => rfl, fun i a b => absurd a (by omega)⟩
theorem Gro.trans {S : Nat → Prop} {f g h : Nat → Nat} {N M K : Nat} (a : Gro S f N g M) (b : Gro S g M h K) : Gro S f N h K := by
  refine ⟨Nat.le_trans a.1 b.1, fun i hi => by rw [b.2.1 i (by have := a.1; omega), a.2.1 i hi], fun i h1 h2 => ?_⟩
  by_cases e : i < M
  · rw [b.2.1 i e]; exact a.2.2 i h1 e
  · exact b.2.2 i (by omega) h2
theorem Gro.mono {S S2 : Nat → Prop} {f g : Nat → Nat} {N M : Nat} (a : Gro S f N g M) (h : ∀ y, S y → S2 y) : Gro S2 f N g M := ⟨a.1, a.2.1, fun i h1 h2 => h _ (a.2.2 i h1 h2)⟩
theorem Gro.keep {S : Nat → Prop} {f g : Nat → Nat} {N M : Nat} (a : Gro S f N g M) {y : Nat} (h : ∃ i, i < N ∧ f i = y) : ∃ i, i < M ∧ g i = y := by
  obtain ⟨i, h1, h2⟩ := h
  exact ⟨i, by have := a.1; omega, by rw [a.2.1 i h1]; exact h2⟩
def fAd (s s1 : Pl) : Prop := ∀ c i, c ≠ 65 → c ≠ 66 → (c = 64 → i ≠ 4) → s1 c i = s c i
theorem fAd.refl (s : Pl) : fAd s s := fun _ _ _ _ _ => rfl
theorem fAd.trans {s s1 s2 : Pl} (h : fAd s s1) (h2 : fAd s1 s2) : fAd s s2 := fun c i a b e => by rw [h2 c i a b e, h c i a b e]
theorem fAd.cell {s s1 : Pl} (h : fAd s s1) {c : Nat} (h1 : c ≠ 65) (h2 : c ≠ 66) (h3 : c ≠ 64) : s1 c = s c := funext fun i => h c i h1 h2 (fun e => absurd e h3)
theorem fAd.sW {w s s1 : Pl} (h : fAd s s1) (hw : sW w s) : sW w s1 := fun c hc => by
  have := stc_out hc
  rw [h.cell (by omega) (by omega) (by omega)]
  exact hw c hc
theorem fAd.lk {w s s1 : Pl} {n x : Nat} (h : fAd s s1) (v : lkk w n x s) : lkk w n x s1 := by
  unfold lkk at *
  rw [h.cell (c := 57) (by decide) (by decide) (by decide)]
  exact v
theorem fAd.Ln {w s s1 : Pl} {t n : Nat} (h : fAd s s1) (v : Lrn w t n s) : Lrn w t n s1 := by
  unfold Lrn at *
  rw [h.cell (c := 57) (by decide) (by decide) (by decide), h.cell (c := 59) (by decide) (by decide) (by decide), h.cell (c := 61) (by decide) (by decide) (by decide)]
  exact v
def ext9 (f : Nat → Nat) (N y : Nat) : Nat → Nat := fun i => if i = N then y else f i
theorem ext9_at (f : Nat → Nat) (N y : Nat) : ext9 f N y N = y := if_pos rfl
theorem ext9_ne {f : Nat → Nat} {N y i : Nat} (h : i ≠ N) : ext9 f N y i = f i := if_neg h
theorem ext9_inj {f : Nat → Nat} {N y : Nat} (h : inj9 f N) (hn : ¬ ∃ i, i < N ∧ f i = y) : inj9 (ext9 f N y) (N + 1) := by
  intro i j hij hj
  by_cases e : j = N
  · subst e
    rw [ext9_at, ext9_ne (by omega)]
    exact fun q => hn ⟨i, hij, q⟩
  · rw [ext9_ne (by omega), ext9_ne e]
    exact h i j hij (by omega)
theorem ext9_all {f : Nat → Nat} {N y : Nat} {R : Nat → Prop} (h : ∀ i, i < N → R (f i)) (hy : R y) : ∀ i, i < N + 1 → R (ext9 f N y i) := by
  intro i hi
  by_cases e : i = N
  · subst e; rw [ext9_at]; exact hy
  · rw [ext9_ne e]; exact h i (by omega)
variable {xs : Nat → Int} {L : Nat} {d : Nat} {s : Pl}
theorem i55 {w : Pl} {n : Nat} {R : Nat → Prop} {N dn y : Nat} {f : Nat → Nat} {P : Pl → Prop} (hd : 1 ≤ d) (hR : Rok R) (hc : CS w n R s N f dn) (hdn : dn ≤ N) (hy : R y) (h : ∀ (s1 : Pl) (M : Nat) (g : Nat → Nat), CS w n R s1 M g dn → Gro (fun z => z = y) f N g M → (∃ i, i < M ∧ g i = y) → fAd s s1 → P s1) : Ev xs L T0 106 d 55 [rf 65, it (y : Nat)] s (qv P) := by
  obtain ⟨⟨c1, c2⟩, c3, c4, c5, c6⟩ := hc
  have hy9 := hR.1 y hy
  have e5 : zshr (y : Nat) 5 = ((y / 32 : Nat) : Int) := by rw [show (5 : Int) = ((5 : Nat) : Int) from rfl, zshr_nat (by omega) (by decide)]
  have e31 : zand (y : Nat) 31 = ((y % 32 : Nat) : Int) := zand31 (by omega)
  have hm : y % 32 < 32 := Nat.mod_lt _ (by decide)
  refine e55 hd (f55_0 ?_)
  rw [e5, e31, zand_sb hm]
  have same : (∃ i, i < N ∧ f i = y) → P s := fun hh => h s N f ⟨⟨c1, c2⟩, c3, c4, c5, c6⟩ (Gro.refl _ f N) hh (fAd.refl s)
  refine ⟨fun z => absurd z (by omega), fun _ => ⟨fun z => absurd z (by omega), fun _ => ⟨fun z => absurd z (by omega), fun _ => ⟨fun h14 => ⟨by omega, fun z => same ((c4 y hy9).mp (by simpa using z)), fun z => ⟨by omega, by omega, ?_⟩⟩, fun h14 => ?_⟩⟩⟩⟩
  · have z := Classical.not_not.mp z
    have hnew : ¬ ∃ i, i < N ∧ f i = y := fun hh => by rw [(c4 y hy9).mpr hh] at z; cases z
    have en : (zup s 65 ((y / 32 : Nat) : Int) (zor (s 65 ((y / 32 : Nat) : Int)) (zshl 1 ((y % 32 : Nat) : Int)))) 64 4 = (N : Nat) := by rw [zune _ _ _ (by decide)]; exact c1
    rw [en]
    refine ⟨by omega, ?_⟩
    rw [zune _ _ _ (by decide), en, zw_id (x := ((N : Nat) : Int) + 1) (by omega) (by omega)]
    refine h _ (N + 1) (ext9 f N y) ?_ ⟨by omega, fun i hi => ext9_ne (by omega), fun i h1 h2 => by rw [show i = N from by omega, ext9_at]⟩ ⟨N, by omega, ext9_at f N y⟩ ?_
    · have hinj := ext9_inj c5 hnew
      have hRa := ext9_all c6 hy
      refine ⟨⟨by rw [zg, if_pos ⟨rfl, rfl⟩]; omega, hR.2 _ _ hinj hRa⟩, fun i hi => ?_, fun y2 hy2 => ?_, hinj, hRa⟩
      · rw [zune _ _ _ (by decide), zg]
        by_cases e : i = N
        · subst e
          rw [if_pos ⟨rfl, rfl⟩, ext9_at, if_neg (show ¬ i < dn by omega), Nat.add_zero]
        · rw [if_neg (fun q => e (by omega)), zune _ _ _ (by decide), c3 i (by omega), ext9_ne e]
      · rw [zune _ _ _ (by decide), zune _ _ _ (by decide), zg]
        have hm2 : y2 % 32 < 32 := Nat.mod_lt _ (by decide)
        have hex : (∃ i, i < N + 1 ∧ ext9 f N y i = y2) ↔ (y = y2 ∨ ∃ i, i < N ∧ f i = y2) := by
          constructor
          · rintro ⟨i, h1, h2⟩
            by_cases e : i = N
            · subst e; rw [ext9_at] at h2; exact Or.inl h2
            · rw [ext9_ne e] at h2; exact Or.inr ⟨i, by omega, h2⟩
          · rintro (rfl | ⟨i, h1, h2⟩)
            · exact ⟨N, by omega, ext9_at f N y⟩
            · exact ⟨i, by omega, by rw [ext9_ne (by omega)]; exact h2⟩
        rw [hex, ← c4 y2 hy2]
        by_cases e : y2 / 32 = y / 32
        · rw [if_pos ⟨rfl, by omega⟩, zor_sb hm hm2, e]
          simp only [Bool.or_eq_true, decide_eq_true_eq]
          constructor
          · rintro (q | q)
            · exact Or.inr q
            · exact Or.inl (by omega)
          · rintro (q | q)
            · exact Or.inr (by rw [q])
            · exact Or.inl q
        · rw [if_neg (fun q => e (by omega))]
          exact ⟨fun q => Or.inr q, fun q => q.elim (fun q2 => absurd (by rw [q2]) e) id⟩
    · intro c i a b e
      rw [zg, if_neg (fun q => e q.1 q.2), zune _ _ _ b, zune _ _ _ a]
  · refine same (Classical.byContradiction fun hnew => ?_)
    have hN : N = 1440 := by omega
    have := hR.2 (N + 1) _ (ext9_inj c5 hnew) (ext9_all c6 hy)
    omega
/-- from the state that was looked at by one row -/
theorem i56 {w : Pl} {n : Nat} {R : Nat → Prop} {N dn x : Nat} {f : Nat → Nat} {P : Pl → Prop} (hd : 2 ≤ d) (hR : Rok R) (hc : CS w n R s N f dn) (hdn : dn ≤ N) (hx : x < 62500) (hb : s 57 11 = (bt x : Nat)) (hy : ∀ l, l < 4 → R (rwd x l)) (h : ∀ (s1 : Pl) (M : Nat) (g : Nat → Nat), CS w n R s1 M g dn → Gro (fun z => ∃ l, l < 4 ∧ z = rwd x l) f N g M → (∀ l, l < 4 → ∃ i, i < M ∧ g i = rwd x l) → fAd s s1 → P s1) : Ev xs L T0 106 d 56 [rf 65, it (x : Nat)] s (qv P) := by
  have l : ∀ (j k : Nat) (s1 : Pl) (M : Nat) (g : Nat → Nat) (v2 : Int), k + j = 4 → v2 = (k : Nat) → CS w n R s1 M g dn → Gro (fun z => ∃ l, l < 4 ∧ z = rwd x l) f N g M → (∀ l, l < k → ∃ i, i < M ∧ g i = rwd x l) → fAd s s1 → Fr xs L T0 106 (d - 1) 56 2 [some (rf 65), some (it (x : Nat)), some (it v2)] [] s1 (qv P) := by
    intro j
    induction j with
    | zero =>
      intro k s1 M g v2 hk h2 h3 h4 h5 h6
      exact f56_2 ⟨fun _ => h s1 M g h3 h4 (fun l hl => h5 l (by omega)) h6, fun z => absurd (by omega) z⟩
    | succ j ih =>
      intro k s1 M g v2 hk h2 h3 h4 h5 h6
      subst h2
      refine f56_2 ⟨fun z => absurd z (by omega), fun _ => i46 (by omega) hx (by omega) (by rw [h6 57 11 (by decide) (by decide) (fun e => absurd e (by decide))]; exact hb) ?_⟩
      refine i55 (by omega) hR h3 (by have := h4.1; omega) (hy k (by omega)) fun s2 M2 g2 k1 k2 k3 k4 => ?_
      rw [zw_id (by omega) (by omega)]
      refine ih (k + 1) s2 M2 g2 _ (by omega) (by omega) k1 (h4.trans (k2.mono fun z hz => ⟨k, by omega, hz⟩)) (fun l hl => ?_) (h6.trans k4)
      by_cases e : l = k
      · subst e; exact k3
      · exact k2.keep (h5 l (by omega))
  exact e56 (by omega) (f56_0 (l 4 0 s N f _ rfl rfl hc (Gro.refl _ f N) (fun l hl => absurd hl (by omega)) (fAd.refl s)))
/-- by one swap -/
theorem i57 {w : Pl} {t n : Nat} {R : Nat → Prop} {N dn x : Nat} {f : Nat → Nat} {P : Pl → Prop} (hd : 4 ≤ d) (hk : wOk w t n) (hw : sW w s) (hl : Lrn w t n s) (hR : Rok R) (hc : CS w n R s N f dn) (hdn : dn ≤ N) (hx : x < 62500) (hlk : lkk w n x s) (hy : ∀ p q, swp w t n x p q → R (swd x p q)) (h : ∀ (s1 : Pl) (M : Nat) (g : Nat → Nat), CS w n R s1 M g dn → Gro (fun z => ∃ p q, swp w t n x p q ∧ z = swd x p q) f N g M → (∀ p q, swp w t n x p q → ∃ i, i < M ∧ g i = swd x p q) → fAd s s1 → P s1) : Ev xs L T0 106 d 57 [rf 65, it (x : Nat)] s (qv P) := by
  have hn := hk.1.2
  have e11 : ∀ s1, fAd s s1 → s1 1 1 = (n : Nat) := fun s1 h => by rw [(h.sW hw) 1 rfl]; exact hk.1.1
  have lq : ∀ (p : Nat), p < n → (∀ (s1 : Pl) (M : Nat) (g : Nat → Nat) (v3 : Int), CS w n R s1 M g dn → Gro (fun z => ∃ p q, swp w t n x p q ∧ z = swd x p q) f N g M → (∀ a q, a < p + 1 → swp w t n x a q → ∃ i, i < M ∧ g i = swd x a q) → fAd s s1 → Fr xs L T0 106 (d - 1) 57 75 [some (rf 65), some (it (x : Nat)), some (it (p : Nat)), some (it v3)] [] s1 (qv P)) → ∀ (j k : Nat) (s1 : Pl) (M : Nat) (g : Nat → Nat) (v3 : Int), k + j = n → v3 = (k : Nat) → CS w n R s1 M g dn → Gro (fun z => ∃ p q, swp w t n x p q ∧ z = swd x p q) f N g M → (∀ a q, (a < p ∨ a = p ∧ q < k) → swp w t n x a q → ∃ i, i < M ∧ g i = swd x a q) → fAd s s1 → Fr xs L T0 106 (d - 1) 57 18 [some (rf 65), some (it (x : Nat)), some (it (p : Nat)), some (it v3)] [] s1 (qv P) := by
    intro p hp out j
    induction j with
    | zero =>
      intro k s1 M g v3 hk9 h2 h3 h4 h5 h6
      refine f57_18 ⟨fun _ => out s1 M g v3 h3 h4 (fun a q ha hs => h5 a q ?_ hs) h6, fun z => absurd (by rw [e11 s1 h6]; omega) z⟩
      have := hs.1.2
      omega
    | succ j ih =>
      intro k s1 M g v3 hk9 h2 h3 h4 h5 h6
      subst h2
      have z3 : zw ((k : Nat) + 1) = ((k + 1 : Nat) : Int) := by rw [zw_id (by omega) (by omega)]; omega
      refine f57_18 ⟨fun z => absurd z (by rw [e11 s1 h6]; omega), fun _ => i43 (by omega) hn hp (h6.lk hlk) (fun g4 => ⟨fun z => absurd z (by decide), fun _ => ?_⟩) (fun g4 => ⟨fun _ => out s1 M g _ h3 h4 (fun a q ha hs => ?_) h6, fun z => absurd rfl z⟩)⟩
      · refine i47 (by omega) hk (h6.sW hw) (h6.Ln hl) (h6.lk hlk) (by omega) (by omega) (fun hs => ⟨fun z => absurd z (by decide), fun _ => ?_⟩) (fun hs => ⟨fun _ => f57_69 ?_, fun z => absurd rfl z⟩)
        · refine i45 (by omega) (h6.sW hw) hk.1.1 hn hp (by omega) hx (h6.lk hlk).1 hs.2.1.1 hs.2.1.2 ?_
          refine i55 (by omega) hR h3 (by have := h4.1; omega) (hy p k hs) fun s2 M2 g2 k1 k2 k3 k4 => f57_69 ?_
          rw [z3]
          refine ih (k + 1) s2 M2 g2 _ (by omega) rfl k1 (h4.trans (k2.mono fun z hz => ⟨p, k, hs, hz⟩)) (fun a q ha hs2 => ?_) (h6.trans k4)
          by_cases e : a = p ∧ q = k
          · rw [e.1, e.2]; exact k3
          · exact k2.keep (h5 a q (by omega) hs2)
        · rw [z3]
          refine ih (k + 1) s1 M g _ (by omega) rfl h3 h4 (fun a q ha hs2 => ?_) h6
          by_cases e : a = p ∧ q = k
          · rw [e.1, e.2] at hs2; exact absurd hs2 hs
          · exact h5 a q (by omega) hs2
      · by_cases e : a = p
        · subst e; exact absurd hs.2.1.1 g4
        · exact h5 a q (by omega) hs
  have lp : ∀ (j k : Nat) (s1 : Pl) (M : Nat) (g : Nat → Nat) (v2 : Int) (w3 : Option AV), k + j = n → v2 = (k : Nat) → CS w n R s1 M g dn → Gro (fun z => ∃ p q, swp w t n x p q ∧ z = swd x p q) f N g M → (∀ a q, a < k → swp w t n x a q → ∃ i, i < M ∧ g i = swd x a q) → fAd s s1 → Fr xs L T0 106 (d - 1) 57 2 [some (rf 65), some (it (x : Nat)), some (it v2), w3] [] s1 (qv P) := by
    intro j
    induction j with
    | zero =>
      intro k s1 M g v2 w3 hk9 h2 h3 h4 h5 h6
      exact f57_2 ⟨fun _ => h s1 M g h3 h4 (fun a q hs => h5 a q (by have := hs.1.1; omega) hs) h6, fun z => absurd (by rw [e11 s1 h6]; omega) z⟩
    | succ j ih =>
      intro k s1 M g v2 w3 hk9 h2 h3 h4 h5 h6
      subst h2
      refine f57_2 ⟨fun z => absurd z (by rw [e11 s1 h6]; omega), fun _ => ?_⟩
      refine lq k (by omega) (fun s2 M2 g2 v3 k1 k2 k3 k4 => f57_75 ?_) n 0 s1 M g _ (by omega) rfl h3 h4 (fun a q ha hs => h5 a q (by omega) hs) h6
      rw [zw_id (by omega) (by omega)]
      exact ih (k + 1) s2 M2 g2 _ _ (by omega) (by omega) k1 k2 k3 k4
  exact e57 (by omega) (f57_0 (lp n 0 s N f _ _ (by omega) rfl hc (Gro.refl _ f N) (fun a q ha => absurd ha (by omega)) (fAd.refl s)))
