/-! the reference's numbers of states -/
def mcd (x : Nat) : Nat → Nat
  | 0 => bt x
  | k + 1 => 5 * mcd x k + pl x k
theorem mcd_lt (x : Nat) : ∀ k, mcd x k < 4 * 5 ^ k := by
  intro k
  induction k with
  | zero => simpa [mcd] using bt_lt x
  | succ k ih =>
    have := pl_lt x k
    simp only [mcd, Nat.pow_succ]
    omega
theorem mcd_lt6 {x k : Nat} (h : k ≤ 6) : mcd x k < 62500 := by
  have h1 := mcd_lt x k
  have h2 : 5 ^ k ≤ 5 ^ 6 := Nat.pow_le_pow_right (by decide) h
  omega
theorem mcd_inj {x y : Nat} : ∀ k, mcd x k = mcd y k → bt x = bt y ∧ ∀ r, r < k → pl x r = pl y r := by
  intro k
  induction k with
  | zero => intro h; exact ⟨h, fun r hr => absurd hr (by omega)⟩
  | succ k ih =>
    intro h
    simp only [mcd] at h
    have h1 := pl_lt x k
    have h2 := pl_lt y k
    obtain ⟨h3, h4⟩ := ih (by omega)
    refine ⟨h3, fun r hr => ?_⟩
    by_cases e : r = k
    · subst e; omega
    · exact h4 r (by omega)
theorem mcd_ext {n x y : Nat} (hx : okx n x) (hy : okx n y) (h : mcd x n = mcd y n) : x = y := by
  obtain ⟨h1, h2⟩ := mcd_inj n h
  exact okx_ext hx hy h1 fun r hr _ => h2 r hr
def HT (s : Pl) (N : Nat) (cd o : Nat → Nat) : Prop :=
  (∀ i, i < N → s 96 (((cd i * 31 + o i) % 4096 : Nat) : Int) = ((i + 1 : Nat) : Int) ∧ ∀ j, j < o i → ¬ s 96 (((cd i * 31 + j) % 4096 : Nat) : Int) = 0) ∧ ∀ h : Nat, h < 4096 → s 96 ((h : Nat) : Int) = 0 ∨ ∃ i, i < N ∧ s 96 ((h : Nat) : Int) = ((i + 1 : Nat) : Int) ∧ h = (cd i * 31 + o i) % 4096
def ML (n : Nat) (s : Pl) (N : Nat) (g cs : Nat → Nat) (dn : Nat → Bool) : Prop :=
  (s 72 37 = (N : Nat) ∧ N ≤ 1440) ∧ (∀ i : Nat, i < N → s 93 ((i : Nat) : Int) = (mcd (g i) n : Nat) ∧ s 94 ((i : Nat) : Int) = (cs i : Nat) ∧ s 95 ((i : Nat) : Int) = if dn i = true then 1 else 0) ∧ inj9 g N ∧ (∀ i, i < N → okx n (g i)) ∧ ∃ o, HT s N (fun i => mcd (g i) n) o
def fCm (s s1 : Pl) : Prop := ∀ c i, c ≠ 93 → c ≠ 94 → c ≠ 95 → c ≠ 96 → (c = 72 → i ≠ 37) → s1 c i = s c i
theorem ML.cong {n N : Nat} {s s1 : Pl} {g cs : Nat → Nat} {dn : Nat → Bool} (h1 : s1 72 37 = s 72 37) (h2 : s1 93 = s 93) (h3 : s1 94 = s 94) (h4 : s1 95 = s 95) (h5 : s1 96 = s 96) (v : ML n s N g cs dn) : ML n s1 N g cs dn := by
  unfold ML HT at *
  rw [h1, h2, h3, h4, h5]
  exact v
variable {xs : Nat → Int} {L : Nat} {d : Nat} {s : Pl}
theorem i191 {n x : Nat} {P : Int → Pl → Prop} (hd : 1 ≤ d) (hn : n ≤ 6) (h3 : s 72 3 = (n : Nat)) (hx : mx n x s) (h : P (mcd x n : Nat) s) : Ev xs L T0 106 d 191 [rf 73] s (qi P) := by
  have l : ∀ (j k : Nat) (v1 v2 : Int), k + j = n → v2 = (k : Nat) → v1 = (mcd x k : Nat) → Fr xs L T0 106 (d - 1) 191 7 [some (rf 73), some (it v1), some (it v2)] [] s (qi P) := by
    intro j
    induction j with
    | zero =>
      intro k v1 v2 hk h2 h1
      have : k = n := by omega
      subst this
      exact f191_7 ⟨fun _ => by rw [h1]; exact h, fun z => absurd (by omega) z⟩
    | succ j ih =>
      intro k v1 v2 hk h2 h1
      subst h2
      subst h1
      have hm := mcd_lt6 (x := x) (k := k) (by omega)
      have hp := pl_lt x k
      refine f191_7 ⟨fun z => absurd z (by omega), fun _ => ⟨by omega, ?_⟩⟩
      rw [hx.2 k (by omega)]
      refine ih (k + 1) _ _ (by omega) ?_ ?_
      · rw [zw_id (by omega) (by omega)]; omega
      · rw [zw_id (x := 5 * ((mcd x k : Nat) : Int)) (by omega) (by omega), zw_id (by omega) (by omega)]
        simp only [mcd]
        omega
  exact e191 hd (f191_0 (l n 0 _ _ (by omega) rfl hx.1))
def fBe (n : Nat) (s s1 : Pl) : Prop := ∀ c i, (c = 75 → i < 0 ∨ ((n : Nat) : Int) ≤ i) → (c = 72 → i ≠ 2) → s1 c i = s c i
theorem i192 {n x : Nat} {P : Pl → Prop} (hd : 1 ≤ d) (hn : n ≤ 6) (h3 : s 72 3 = (n : Nat)) (h : ∀ s1 : Pl, mx n x s1 → fBe n s s1 → P s1) : Ev xs L T0 106 d 192 [rf 73, it (mcd x n : Nat)] s (qv P) := by
  have l : ∀ (k : Nat) (s1 : Pl) (v1 v2 v3 : Int), k ≤ n → v3 = (k : Nat) - 1 → v2 = (mcd x k : Nat) → (∀ r, k ≤ r → r < n → s1 75 ((r : Nat) : Int) = (pl x r : Nat)) → fBe n s s1 → Fr xs L T0 106 (d - 1) 192 9 [some (rf 73), some (it v1), some (it v2), some (it v3)] [] s1 (qv P) := by
    intro k
    induction k with
    | zero =>
      intro s1 v1 v2 v3 hk h4 h2 h5 h6
      refine f192_9 ⟨fun _ => h _ ⟨by rw [zg, if_pos ⟨rfl, rfl⟩, h2]; rfl, fun r hr => by rw [zune _ _ _ (by decide)]; exact h5 r (by omega) hr⟩ (fun c i b1 b2 => by rw [zg, if_neg (fun q => b2 q.1 q.2)]; exact h6 c i b1 b2), fun z => absurd (by omega) z⟩
    | succ k ih =>
      intro s1 v1 v2 v3 hk h4 h2 h5 h6
      have hm := mcd_lt6 (x := x) (k := k + 1) (by omega)
      have hp := pl_lt x k
      have em : mcd x (k + 1) = 5 * mcd x k + pl x k := rfl
      have ed : zdiv v2 5 = (mcd x k : Nat) := by
        rw [h2, show (5 : Int) = ((5 : Nat) : Int) from rfl, zdiv_nat (by omega) (by decide) (by decide), em]
        congr 1; omega
      have er : zrem v2 5 = (pl x k : Nat) := by
        rw [h2, show (5 : Int) = ((5 : Nat) : Int) from rfl, zrem_nat (by omega) (by decide) (by decide), em]
        congr 1; omega
      have ez : ∀ _ : Unit, zw (v3 + (-1)) = (k : Nat) - 1 := fun _ => by rw [zw_id (by omega) (by omega)]; omega
      refine f192_9 ⟨fun z => absurd z (by omega), fun _ => ⟨by omega, ?_⟩⟩
      rw [ed, er, ez ()]
      have e3 : v3 = (k : Nat) := by omega
      refine ih _ _ _ _ (by omega) rfl rfl (fun r hr1 hr2 => ?_) (fun c i b1 b2 => ?_)
      · rw [zg]
        by_cases e : r = k
        · subst e; rw [if_pos ⟨rfl, by omega⟩]
        · rw [if_neg (fun q => e (by omega))]; exact h5 r (by omega) hr2
      · rw [zg, if_neg (fun q => by have := b1 q.1; omega)]
        exact h6 c i b1 b2
  refine e192 hd (f192_0 ?_)
  rw [h3]
  exact l n s _ _ _ (Nat.le_refl _) (by rw [zw_id (by omega) (by omega)]) rfl (fun r h1 h2 => absurd h1 (by omega)) (fun _ _ _ _ => rfl)
theorem inj_le {f : Nat → Nat} {j N : Nat} (h : inj9 f j) (hf : ∀ i, i < j → f i < N) : j ≤ N := by
  have h1 := (lsf_nodup h).length_le_of_subset (l₂ := List.range N) (fun y hy => by
    obtain ⟨i, h1, rfl⟩ := lsf_mem.mp hy
    exact List.mem_range.mpr (hf i h1))
  rw [lsf_len, List.length_range] at h1
  exact h1
theorem i193 {n N y c : Nat} {g cs : Nat → Nat} {dn : Nat → Bool} {P : Pl → Prop} (hd : 2 ≤ d) (hn : n ≤ 6) (h3 : s 72 3 = (n : Nat)) (ml : ML n s N g cs dn) (hx : mx n y s) (hy : okx n y) (hdn : dn N = false) (hb : (∀ i, i < N → g i ≠ y) → N < 1440)
    (p0 : 400 < c → P s) (p1 : c ≤ 400 → ∀ i, i < N → g i = y → cs i ≤ c → P s)
    (p2 : c ≤ 400 → ∀ i, i < N → g i = y → c < cs i → ∀ s1, ML n s1 N g (ext9 cs i c) dn → fCm s s1 → P s1)
    (p3 : c ≤ 400 → (∀ i, i < N → g i ≠ y) → ∀ s1, ML n s1 (N + 1) (ext9 g N y) (ext9 cs N c) dn → fCm s s1 → P s1) : Ev xs L T0 106 d 193 [rf 73, it (c : Nat)] s (qv P) := by
  have ml2 := ml
  obtain ⟨⟨a1, a2⟩, a3, a4, a5, o, ⟨a6, a7⟩⟩ := ml
  have hv := mcd_lt6 (x := y) hn
  refine e193 (by omega) (f193_0 ⟨fun hc => i191 (by omega) hn h3 hx ?_, fun hc => p0 (by omega)⟩)
  have hc4 : c ≤ 400 := by omega
  -- found at an index
  have found : ∀ (i h : Nat), i < N → h < 4096 → s 96 ((h : Nat) : Int) = ((i + 1 : Nat) : Int) → g i = y → Fr xs L T0 106 (d - 1) 193 66 [some (rf 73), some (it (c : Nat)), some (it (mcd y n : Nat)), some (it (h : Nat))] [] s (qv P) := by
    intro i h hi hh e hg
    have ez : ∀ _ : Unit, zw (((i + 1 : Nat) : Int) - 1) = (i : Nat) := fun _ => by rw [zw_id (by omega) (by omega)]; omega
    refine f193_66 ⟨by omega, ?_⟩
    rw [e, ez (), (a3 i hi).2.1]
    refine ⟨fun _ => ⟨by omega, by omega, fun q => p1 hc4 i hi hg (by omega), fun q => ⟨by omega, by omega, p2 hc4 i hi hg (by omega) _ ?_ ?_⟩⟩, fun q => absurd (by omega) q⟩
    · refine ⟨⟨by rw [zune _ _ _ (by decide)]; exact a1, a2⟩, fun k hk => ⟨by rw [zune _ _ _ (by decide)]; exact (a3 k hk).1, ?_, by rw [zune _ _ _ (by decide)]; exact (a3 k hk).2.2⟩, a4, a5, o, ?_⟩
      · rw [zg]
        by_cases e : k = i
        · subst e; rw [if_pos ⟨rfl, rfl⟩, ext9_at]
        · rw [if_neg (fun q => e (by omega)), ext9_ne e]; exact (a3 k hk).2.1
      · unfold HT
        rw [zune _ _ _ (by decide)]
        exact ⟨a6, a7⟩
    · intro c2 i2 b1 b2 b3 b4 b5
      rw [zune _ _ _ b2]
  -- a free slot behind j others
  have free : ∀ (j h : Nat), h = (mcd y n * 31 + j) % 4096 → s 96 ((h : Nat) : Int) = 0 → (∀ k, k < j → ¬ s 96 (((mcd y n * 31 + k) % 4096 : Nat) : Int) = 0) → (∀ i, i < N → g i ≠ y) → Fr xs L T0 106 (d - 1) 193 66 [some (rf 73), some (it (c : Nat)), some (it (mcd y n : Nat)), some (it (h : Nat))] [] s (qv P) := by
    intro j h hh e0 hj hnew
    have hh4 : h < 4096 := by rw [hh]; exact Nat.mod_lt _ (by decide)
    have hN := hb hnew
    have eN : ∀ _ : Unit, zw ((N : Nat) + 1) = ((N + 1 : Nat) : Int) := fun _ => by rw [zw_id (by omega) (by omega)]; omega
    refine f193_66 ⟨by omega, fun q => absurd e0 q, fun _ => ?_⟩
    rw [zune s (k := 93) (a := 72) _ _ (by decide), a1]
    rw [zune (zup s 93 (N : Nat) (mcd y n : Nat)) (k := 94) (a := 72) _ _ (by decide), zune s (k := 93) (a := 72) _ _ (by decide), a1]
    rw [zune (zup (zup s 93 (N : Nat) (mcd y n : Nat)) 94 (N : Nat) (c : Nat)) (k := 95) (a := 72) _ _ (by decide), zune (zup s 93 (N : Nat) (mcd y n : Nat)) (k := 94) (a := 72) _ _ (by decide), zune s (k := 93) (a := 72) _ _ (by decide), a1, eN ()]
    rw [zusm (zup (zup (zup s 93 (N : Nat) (mcd y n : Nat)) 94 (N : Nat) (c : Nat)) 95 (N : Nat) 0) 72 37]
    simp only [if_true]
    refine ⟨by omega, by omega, ⟨by omega, by omega, Or.inl trivial⟩, by omega, p3 hc4 hnew _ ?_ ?_⟩
    · refine ⟨⟨by rw [zune _ _ _ (by decide), zg, if_pos ⟨rfl, rfl⟩], by omega⟩, fun k hk => ⟨?_, ?_, ?_⟩, ext9_inj a4 (fun ⟨i, q1, q2⟩ => hnew i q1 q2), ext9_all a5 hy, ext9 o N j, fun i hi => ?_, fun h2 hh2 => ?_⟩
      · rw [zune _ _ _ (by decide), zune _ _ _ (by decide), zune _ _ _ (by decide), zune _ _ _ (by decide), zg]
        by_cases e : k = N
        · subst e; rw [if_pos ⟨rfl, rfl⟩, ext9_at]
        · rw [if_neg (fun q => e (by omega)), ext9_ne e]; exact (a3 k (by omega)).1
      · rw [zune _ _ _ (by decide), zune _ _ _ (by decide), zune _ _ _ (by decide), zg]
        by_cases e : k = N
        · subst e; rw [if_pos ⟨rfl, rfl⟩, ext9_at]
        · rw [if_neg (fun q => e (by omega)), zune _ _ _ (by decide), ext9_ne e]; exact (a3 k (by omega)).2.1
      · rw [zune _ _ _ (by decide), zune _ _ _ (by decide), zg]
        by_cases e : k = N
        · subst e; rw [if_pos ⟨rfl, rfl⟩, hdn]; rfl
        · rw [if_neg (fun q => e (by omega)), zune _ _ _ (by decide), zune _ _ _ (by decide)]; exact (a3 k (by omega)).2.2
      · have e94 : ∀ q : Nat, q ≠ h → (zup (zup (zup (zup (zup s 93 (N : Nat) (mcd y n : Nat)) 94 (N : Nat) (c : Nat)) 95 (N : Nat) 0) 72 37 ((N + 1 : Nat) : Int)) 96 (h : Nat) ((N + 1 : Nat) : Int)) 96 ((q : Nat) : Int) = s 96 ((q : Nat) : Int) := fun q hq => by
          rw [zg, if_neg (fun z => hq (by omega)), zune _ _ _ (by decide), zune _ _ _ (by decide), zune _ _ _ (by decide), zune _ _ _ (by decide)]
        by_cases e : i = N
        · subst e
          simp only [ext9_at]
          refine ⟨?_, fun k hk => ?_⟩
          · rw [← hh, zg, if_pos ⟨rfl, rfl⟩]
          · by_cases e2 : (mcd y n * 31 + k) % 4096 = h
            · rw [e2, zg, if_pos ⟨rfl, rfl⟩]; omega
            · rw [e94 _ e2]; exact hj k hk
        · simp only [ext9_ne e]
          obtain ⟨q1, q2⟩ := a6 i (by omega)
          refine ⟨?_, fun k hk => ?_⟩
          · rw [e94 _ (fun z => by rw [z, e0] at q1; omega)]; exact q1
          · rw [e94 _ (fun z => q2 k hk (by rw [z]; exact e0))]; exact q2 k hk
      · rw [zg]
        by_cases e : h2 = h
        · rw [if_pos ⟨rfl, by omega⟩]
          exact Or.inr ⟨N, by omega, rfl, by simp only [ext9_at]; rw [e]; exact hh⟩
        · rw [if_neg (fun q => e (by omega)), zune _ _ _ (by decide), zune _ _ _ (by decide), zune _ _ _ (by decide), zune _ _ _ (by decide)]
          rcases a7 h2 hh2 with q | ⟨i, q1, q2, q3⟩
          · exact Or.inl q
          · exact Or.inr ⟨i, by omega, q2, by simp only [ext9_ne (show i ≠ N by omega)]; exact q3⟩
    · intro c2 i2 b1 b2 b3 b4 b5
      rw [zune _ _ _ b4, zg, if_neg (fun q => b5 q.1 q.2), zune _ _ _ b3, zune _ _ _ b2, zune _ _ _ b1]
  -- the way along the slots
  have l : ∀ (m j : Nat) (h : Nat), j + m = 1441 → h = (mcd y n * 31 + j) % 4096 → (∃ fi : Nat → Nat, ∀ k, k < j → fi k < N ∧ s 96 (((mcd y n * 31 + k) % 4096 : Nat) : Int) = ((fi k + 1 : Nat) : Int) ∧ g (fi k) ≠ y ∧ (mcd y n * 31 + k) % 4096 = (mcd (g (fi k)) n * 31 + o (fi k)) % 4096) → Fr xs L T0 106 (d - 1) 193 22 [some (rf 73), some (it (c : Nat)), some (it (mcd y n : Nat)), some (it (h : Nat))] [] s (qv P) := by
    intro m
    induction m with
    | zero =>
      rintro j h hm hh ⟨fi, hfi⟩
      have hinj : inj9 fi j := fun a b hab hb e => by
        have q1 := (hfi a (by omega)).2.2.2
        have q2 := (hfi b hb).2.2.2
        rw [e] at q1
        omega
      have := inj_le hinj fun i hi => (hfi i hi).1
      omega
    | succ m ih =>
      rintro j h hm hh ⟨fi, hfi⟩
      have hinj : inj9 fi j := fun a b hab hb e => by
        have q1 := (hfi a (by omega)).2.2.2
        have q2 := (hfi b hb).2.2.2
        rw [e] at q1
        omega
      have hjN := inj_le hinj fun i hi => (hfi i hi).1
      have hh4 : h < 4096 := by rw [hh]; exact Nat.mod_lt _ (by decide)
      rcases a7 h hh4 with e0 | ⟨i, hi, e1, e2⟩
      · refine f193_22 ⟨by omega, fun _ => free j h hh e0 (fun k hk => by rw [(hfi k hk).2.1]; omega) (fun i hi e => ?_), fun q => absurd (by omega) q⟩
        obtain ⟨q1, q2⟩ := a6 i hi
        simp only [e] at q1 q2
        rcases Nat.lt_trichotomy (o i) j with g1 | g1 | g1
        · obtain ⟨r1, r2, r3, _⟩ := hfi (o i) g1
          rw [r2] at q1
          have : fi (o i) = i := by omega
          rw [this] at r3
          exact r3 e
        · rw [g1, ← hh, e0] at q1; omega
        · exact q2 j g1 (by rw [← hh]; exact e0)
      · have ez : ∀ _ : Unit, zw (((i + 1 : Nat) : Int) - 1) = (i : Nat) := fun _ => by rw [zw_id (by omega) (by omega)]; omega
        refine f193_22 ?_
        rw [e1, ez (), (a3 i hi).1]
        refine ⟨by omega, fun q => absurd q (by omega), fun _ => ⟨by omega, by omega, fun q => found i h hi hh4 e1 (mcd_ext (a5 i hi) hy (by omega)), fun q => ?_⟩⟩
        have hne : g i ≠ y := fun e => q (by rw [e])
        have nx : ∀ v : Int, v = (((mcd y n * 31 + (j + 1)) % 4096 : Nat) : Int) → Fr xs L T0 106 (d - 1) 193 62 [some (rf 73), some (it (c : Nat)), some (it (mcd y n : Nat)), some (it (h : Nat))] [it v] s (qv P) := by
          intro v hv9
          refine f193_62 ?_
          rw [hv9]
          refine ih (j + 1) _ (by omega) rfl ⟨ext9 fi j i, fun k hk => ?_⟩
          by_cases e : k = j
          · subst e
            rw [ext9_at]
            exact ⟨hi, by rw [← hh]; exact e1, hne, by rw [← hh]; exact e2⟩
          · rw [ext9_ne e]
            exact hfi k (by omega)
        exact ⟨fun q2 => nx _ (by rw [zw_id (by omega) (by omega)]; omega), fun q2 => nx _ (by omega)⟩
  have e31 : zrem (zw ((mcd y n : Nat) * 31)) 4096 = ((mcd y n * 31 + 0) % 4096 : Nat) := by
    have ez : zw (((mcd y n : Nat) : Int) * 31) = ((mcd y n * 31 : Nat) : Int) := by rw [zw_id (by omega) (by omega)]; omega
    rw [ez, show (4096 : Int) = ((4096 : Nat) : Int) from rfl, zrem_nat (by omega) (by decide) (by decide)]
    rfl
  rw [e31]
  exact l 1441 0 _ (by omega) rfl ⟨fun _ => 0, fun k hk => absurd hk (by omega)⟩
