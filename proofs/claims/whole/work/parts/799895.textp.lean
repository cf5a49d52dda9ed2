/-! a TEXT, read purely: what both sides do -/
abbrev TxS : Type := Nat × Nat × Int × Int × Nat × (Int → Int)
def TxS.p (x : TxS) : Nat := x.1
def TxS.nx (x : TxS) : Nat := x.2.1
def TxS.tk (x : TxS) : Int := x.2.2.1
def TxS.am (x : TxS) : Int := x.2.2.2.1
def TxS.l (x : TxS) : Nat := x.2.2.2.2.1
def TxS.C (x : TxS) : Int → Int := x.2.2.2.2.2
abbrev TxR : Type := TxS ⊕ Nat
def bnd (r : TxR) (g : TxS → TxR) : TxR := match r with
  | .inl x => g x
  | .inr p => .inr p
def rn (f : Int → Int) (q : Int → Bool) : Nat → Nat → Nat
  | 0, i => i
  | j + 1, i => if q (f ((i : Nat) : Int)) = true then rn f q j (i + 1) else i
def isBl (b : Int) : Bool := decide (b = 32 ∨ b = 10)
def isLe (b : Int) : Bool := decide (97 ≤ b ∧ b ≤ 122)
def isDg (b : Int) : Bool := decide (48 ≤ b ∧ b ≤ 57)
def isSg (b : Int) : Bool := decide (b = 40 ∨ b = 41 ∨ b = 59 ∨ b = 43 ∨ b = 45 ∨ b = 42 ∨ b = 60 ∨ b = 61)
def wln : List Nat := [3, 2, 2, 4, 4, 2, 3, 3, 4, 2, 3, 3]
def wsz (k : Nat) : Nat := wln.getD k 0
def wch (i : Nat) : Int := (zgv_L.getD 5 []).getD i 0
def wtok (f : Int → Int) (p e : Nat) : Nat → Nat → Int
  | 0, _ => 302
  | j + 1, k => if e = p + wsz k ∧ ∀ i, i < wsz k → f ((p + i : Nat) : Int) = wch (5 * k + i) then ((k : Nat) : Int) else wtok f p e j (k + 1)
def numv (f : Int → Int) : Nat → Nat → Int → Int
  | 0, _, a => a
  | j + 1, i, a => numv f j (i + 1) (10 * a + f ((i : Nat) : Int) - 48)
def tokT (f : Int → Int) (m : Nat) (am : Int) (p : Nat) : Int × Int × Nat :=
  if m ≤ p then (301, am, p) else
  if isLe (f ((p : Nat) : Int)) = true then (wtok f p (rn f isLe (m - p) p) 12 0, am, rn f isLe (m - p) p) else
  if isDg (f ((p : Nat) : Int)) = true then (if p + 4 < rn f isDg (m - p) p then (302, am, rn f isDg (m - p) p) else (300, numv f (rn f isDg (m - p) p - p) p 0, rn f isDg (m - p) p)) else
  (if isSg (f ((p : Nat) : Int)) = true then f ((p : Nat) : Int) else 302, am, p + 1)
def skp (f : Int → Int) (m : Nat) (i : Nat) : Nat := rn f isBl (m - i) i
def stepT (f : Int → Int) (m : Nat) (x : TxS) : TxS := (skp f m x.nx, (tokT f m x.am (skp f m x.nx)).2.2, (tokT f m x.am (skp f m x.nx)).1, (tokT f m x.am (skp f m x.nx)).2.1, x.l, x.C)
def addT (c : Int) (x : TxS) : TxS := (x.p, x.nx, x.tk, x.am, x.l + 1, fun b => if b = ((x.l : Nat) : Int) then c else x.C b)
def lpT (op : Int → Option Int) (S : TxS → TxS) (F : TxS → TxR) : Nat → TxS → TxR
  | 0, x => .inr x.p
  | j + 1, x => match op x.tk with
    | none => .inl x
    | some c => bnd (F (S x)) fun y => lpT op S F j (addT c y)
def chn (op : Int → Option Int) (S : TxS → TxS) (F : TxS → TxR) (x : TxS) : TxR := bnd (F x) fun y => lpT op S F 161 y
def opO (k : Int) : Option Int := if k = 9 then some (-10) else none
def opA (k : Int) : Option Int := if k = 10 then some (-11) else none
def opS (k : Int) : Option Int := if k = 43 ∨ k = 45 then some (-k) else none
def opM (k : Int) : Option Int := if k = 42 then some (-42) else none
def oneG (S : TxS → TxS) (o1 oE : TxS → TxR) (x : TxS) : TxR :=
  if x.tk = 45 then bnd (o1 x) fun y => .inl (addT (-13) y) else
  if x.tk = 40 then bnd (oE x) fun y => if y.tk = 41 then .inl (S y) else .inr y.p else
  if x.tk = 300 then .inl (S (addT x.am x)) else
  if x.tk < 6 then .inl (S (addT (-1 - x.tk) x)) else .inr x.p
def notG (S : TxS → TxS) (oN sum : TxS → TxR) (x : TxS) : TxR :=
  if x.tk = 11 then bnd (oN x) fun y => .inl (addT (-12) y) else
  bnd (sum x) fun y => if y.tk = 60 ∨ y.tk = 61 then bnd (sum (S y)) fun z => .inl (addT (-y.tk) z) else .inl y
def terG (S : TxS → TxS) (o : TxS → TxR) : TxS → TxR := chn opM S o
def sumG (S : TxS → TxS) (o : TxS → TxR) : TxS → TxR := chn opS S (terG S o)
def andG (S : TxS → TxS) (o : TxS → TxR) : TxS → TxR := chn opA S o
def eG (S : TxS → TxS) (o : TxS → TxR) : TxS → TxR := chn opO S (andG S o)
def stopG (x : TxS) : TxR := .inr x.p
/-- what `one`, `not` are r brackets to go -/
def lvG (S : TxS → TxS) : Nat → (TxS → TxR) × (TxS → TxR)
  | 0 => (oneG S stopG stopG, notG S stopG (sumG S (oneG S stopG stopG)))
  | r + 1 => (oneG S (fun x => (lvG S r).1 (S x)) (fun x => eG S (lvG S r).2 (S x)), notG S (fun x => (lvG S r).2 (S x)) (sumG S (oneG S (fun x => (lvG S r).1 (S x)) (fun x => eG S (lvG S r).2 (S x)))))
def ptG (S : TxS → TxS) (k : Int) (x : TxS) : TxR := if x.tk = 6 + k then bnd (eG S (lvG S 5).2 (S x)) fun y => if y.tk = 59 then .inl (S y) else .inr y.p else .inr x.p
abbrev TxT : Type := (Nat × Nat × TxS) ⊕ Nat
def txG (f : Int → Int) (m : Nat) (am0 : Int) (C0 : Int → Int) : TxT :=
  match ptG (stepT f m) 0 (stepT f m (0, 0, 0, am0, 0, C0)) with
  | .inr p => .inr p
  | .inl x => match ptG (stepT f m) 1 x with
    | .inr p => .inr p
    | .inl y => match ptG (stepT f m) 2 y with
      | .inr p => .inr p
      | .inl z => if z.tk = 301 then .inl (x.l, y.l, z) else .inr z.p
/-! where the places stand -/
theorem rn_ge {f : Int → Int} {q : Int → Bool} : ∀ j i, i ≤ rn f q j i
  | 0, i => Nat.le_refl _
  | j + 1, i => by
    unfold rn
    split
    · exact Nat.le_trans (by omega) (rn_ge j (i + 1))
    · exact Nat.le_refl _
theorem rn_le {f : Int → Int} {q : Int → Bool} : ∀ j i, rn f q j i ≤ i + j
  | 0, i => Nat.le_refl _
  | j + 1, i => by
    unfold rn
    split
    · exact Nat.le_trans (rn_le j (i + 1)) (by omega)
    · omega
theorem rn_all {f : Int → Int} {q : Int → Bool} : ∀ j i k, i ≤ k → k < rn f q j i → q (f ((k : Nat) : Int)) = true
  | 0, i, k, h1, h2 => by unfold rn at h2; omega
  | j + 1, i, k, h1, h2 => by
    unfold rn at h2
    split at h2
    · next h =>
      by_cases e : i = k
      · subst e; exact h
      · exact rn_all j (i + 1) k (by omega) h2
    · omega
theorem rn_gt {f : Int → Int} {q : Int → Bool} {j i : Nat} (hj : 0 < j) (h : q (f ((i : Nat) : Int)) = true) : i < rn f q j i := by
  obtain ⟨k, rfl⟩ : ∃ k, j = k + 1 := ⟨j - 1, by omega⟩
  unfold rn
  rw [if_pos h]
  exact Nat.lt_of_lt_of_le (by omega) (rn_ge k (i + 1))
theorem wtok_r {f : Int → Int} {p e : Nat} : ∀ j k, j + k = 12 → (0 ≤ wtok f p e j k ∧ wtok f p e j k < 12) ∨ wtok f p e j k = 302
  | 0, k, _ => Or.inr rfl
  | j + 1, k, h => by
    unfold wtok
    split
    · left; omega
    · exact wtok_r j (k + 1) (by omega)
theorem numv_r {f : Int → Int} : ∀ (j i : Nat) (a : Int), (∀ k, i ≤ k → k < i + j → isDg (f ((k : Nat) : Int)) = true) → 0 ≤ a → (j = 0 ∧ a ≤ 9999 ∨ j = 1 ∧ a ≤ 999 ∨ j = 2 ∧ a ≤ 99 ∨ j = 3 ∧ a ≤ 9 ∨ j = 4 ∧ a = 0) → 0 ≤ numv f j i a ∧ numv f j i a ≤ 9999
  | 0, i, a, _, h0, h1 => by unfold numv; omega
  | j + 1, i, a, h, h0, h1 => by
    unfold numv
    have h2 := h i (by omega) (by omega)
    simp only [isDg, decide_eq_true_eq] at h2
    exact numv_r j (i + 1) _ (fun k a b => h k (by omega) (by omega)) (by omega) (by omega)
def wfS (m : Nat) (x : TxS) : Prop := x.p ≤ x.nx ∧ x.nx ≤ m ∧ (x.tk ≠ 301 → x.p < x.nx) ∧ x.l ≤ x.p ∧ 0 ≤ x.tk ∧ x.tk ≤ 302 ∧ (x.tk = 300 → 0 ≤ x.am ∧ x.am ≤ 9999)
theorem tokT_ok {f : Int → Int} {m p : Nat} {am : Int} (hp : p ≤ m) : p ≤ (tokT f m am p).2.2 ∧ (tokT f m am p).2.2 ≤ m ∧ ((tokT f m am p).1 ≠ 301 → p < (tokT f m am p).2.2) ∧ 0 ≤ (tokT f m am p).1 ∧ (tokT f m am p).1 ≤ 302 ∧ ((tokT f m am p).1 = 300 → 0 ≤ (tokT f m am p).2.1 ∧ (tokT f m am p).2.1 ≤ 9999) := by
  unfold tokT
  by_cases h1 : m ≤ p
  · rw [if_pos h1]
    exact ⟨Nat.le_refl _, hp, fun h => absurd rfl h, show (0 : Int) ≤ 301 by decide, show (301 : Int) ≤ 302 by decide, fun h => absurd h (show ¬ (301 : Int) = 300 by decide)⟩
  · rw [if_neg h1]
    by_cases h2 : isLe (f ((p : Nat) : Int)) = true
    · rw [if_pos h2]
      have a1 := rn_gt (f := f) (j := m - p) (by omega) h2
      have a2 := rn_le (f := f) (q := isLe) (m - p) p
      have a3 := wtok_r (f := f) (p := p) (e := rn f isLe (m - p) p) 12 0 rfl
      generalize wtok f p (rn f isLe (m - p) p) 12 0 = W at *
      dsimp only
      exact ⟨by omega, by omega, fun _ => a1, by omega, by omega, fun h => by omega⟩
    · rw [if_neg h2]
      by_cases h3 : isDg (f ((p : Nat) : Int)) = true
      · rw [if_pos h3]
        have a1 := rn_gt (f := f) (j := m - p) (by omega) h3
        have a2 := rn_le (f := f) (q := isDg) (m - p) p
        by_cases h4 : p + 4 < rn f isDg (m - p) p
        · rw [if_pos h4]
          dsimp only
          exact ⟨by omega, by omega, fun _ => a1, by decide, by decide, fun h => absurd h (by decide)⟩
        · rw [if_neg h4]
          have a3 := numv_r (f := f) (rn f isDg (m - p) p - p) p 0 (fun k b c => rn_all (m - p) p k b (by omega)) (by decide) (by omega)
          dsimp only
          exact ⟨by omega, by omega, fun _ => a1, by decide, by decide, fun _ => a3⟩
      · rw [if_neg h3]
        dsimp only
        by_cases h5 : isSg (f ((p : Nat) : Int)) = true
        · rw [if_pos h5]
          simp only [isSg, decide_eq_true_eq] at h5
          exact ⟨by omega, by omega, fun _ => by omega, by omega, by omega, fun h => by omega⟩
        · rw [if_neg h5]
          exact ⟨by omega, by omega, fun _ => by omega, by decide, by decide, fun h => absurd h (by decide)⟩
theorem skp_ok {f : Int → Int} {m i : Nat} (h : i ≤ m) : i ≤ skp f m i ∧ skp f m i ≤ m := by
  unfold skp
  have a := rn_ge (f := f) (q := isBl) (m - i) i
  have b := rn_le (f := f) (q := isBl) (m - i) i
  omega
theorem stepT_ok {f : Int → Int} {m : Nat} {x : TxS} (h1 : x.nx ≤ m) (h2 : x.l ≤ x.nx) : wfS m (stepT f m x) ∧ x.nx ≤ (stepT f m x).p ∧ (stepT f m x).l = x.l ∧ (stepT f m x).C = x.C := by
  have a := skp_ok (f := f) h1
  have b := tokT_ok (f := f) (am := x.am) a.2
  refine ⟨⟨b.1, b.2.1, b.2.2.1, ?_, b.2.2.2⟩, a.1, rfl, rfl⟩
  show x.l ≤ skp f m x.nx
  omega
/-- what a part of the grammar does to the places -/
def GzR (m : Nat) (x : TxS) : TxR → Prop
  | .inl y => wfS m y ∧ x.p ≤ y.p ∧ y.l + x.p ≤ x.l + y.p
  | .inr p => x.p ≤ p ∧ p ≤ m
def Gz (m : Nat) (F : TxS → TxR) : Prop := ∀ x, wfS m x → GzR m x (F x)
theorem wf_add {m : Nat} {x : TxS} {c : Int} (h : wfS m x) (hl : x.l < x.p) : wfS m (addT c x) := ⟨h.1, h.2.1, h.2.2.1, hl, h.2.2.2.2⟩
section GDT
variable {f : Int → Int} {m : Nat} {op : Int → Option Int}
theorem Gz_lp {F : TxS → TxR} (hop : op 301 = none) (hF : Gz m F) : ∀ j x, wfS m x → GzR m x (lpT op (stepT f m) F j x)
  | 0, x, h => ⟨Nat.le_refl _, Nat.le_trans h.1 h.2.1⟩
  | j + 1, x, h => by
    unfold lpT
    cases e : op x.tk with
    | none => exact ⟨h, Nat.le_refl _, by omega⟩
    | some c =>
      dsimp only
      have h3 : x.tk ≠ 301 := fun w => by rw [w, hop] at e; cases e
      have h4 := h.2.2.1 h3
      have s := stepT_ok (f := f) (x := x) h.2.1 (by have := h.2.2.2.1; omega)
      have g := hF _ s.1
      cases e2 : F (stepT f m x) with
      | inr p =>
        rw [e2] at g
        exact ⟨by have := g.1; omega, g.2⟩
      | inl y =>
        rw [e2] at g
        obtain ⟨g1, g2, g3⟩ := g
        have hl := s.2.2.1
        have hx := h.2.2.2.1
        have r := Gz_lp hop hF j (addT c y) (wf_add g1 (by omega))
        show GzR m x (lpT op (stepT f m) F j (addT c y))
        revert r
        cases lpT op (stepT f m) F j (addT c y) with
        | inr p => exact fun r => ⟨by have := r.1; have e9 : (addT c y).p = y.p := rfl; omega, r.2⟩
        | inl z =>
          intro r
          have e9 : (addT c y).p = y.p := rfl
          have e8 : (addT c y).l = y.l + 1 := rfl
          exact ⟨r.1, by have := r.2.1; omega, by have := r.2.2; have := r.2.1; omega⟩
theorem Gz_chn {F : TxS → TxR} (hop : op 301 = none) (hF : Gz m F) : Gz m (chn op (stepT f m) F) := by
  intro x h
  unfold chn
  have g := hF x h
  cases e : F x with
  | inr p => rw [e] at g; exact g
  | inl y =>
    rw [e] at g
    have r := Gz_lp (f := f) hop hF 161 y g.1
    show GzR m x (lpT op (stepT f m) F 161 y)
    revert r
    cases lpT op (stepT f m) F 161 y with
    | inr p => exact fun r => ⟨by have := r.1; have := g.2.1; omega, r.2⟩
    | inl z => exact fun r => ⟨r.1, by have := r.2.1; have := g.2.1; omega, by have := r.2.2; have := g.2.2; omega⟩
theorem Gz_stop : Gz m stopG := fun x h => ⟨Nat.le_refl _, Nat.le_trans h.1 h.2.1⟩
/-- behind an opening: the place has gone on -/
def GzO (m : Nat) (F : TxS → TxR) : Prop := ∀ x, wfS m x → x.tk ≠ 301 → match F x with
  | .inl y => wfS m y ∧ x.p < y.p ∧ y.l + x.p + 1 ≤ x.l + y.p
  | .inr p => x.p ≤ p ∧ p ≤ m
theorem GzO_stop : GzO m stopG := fun x h _ => ⟨Nat.le_refl _, Nat.le_trans h.1 h.2.1⟩
theorem GzO_of {F : TxS → TxR} (hF : Gz m F) : GzO m (fun x => F (stepT f m x)) := by
  intro x h h3
  have h4 := h.2.2.1 h3
  have s := stepT_ok (f := f) (x := x) h.2.1 (by have := h.2.2.2.1; omega)
  have g := hF _ s.1
  have hl := s.2.2.1
  dsimp only
  revert g
  cases F (stepT f m x) with
  | inr p => exact fun g => ⟨by have := g.1; omega, g.2⟩
  | inl y => exact fun g => ⟨g.1, by have := g.2.1; omega, by have := g.2.2; omega⟩
theorem Gz_one {o1 oE : TxS → TxR} (h1 : GzO m o1) (hE : GzO m oE) : Gz m (oneG (stepT f m) o1 oE) := by
  intro x h
  unfold oneG
  have hx := h.2.2.2.1
  by_cases a : x.tk = 45
  · rw [if_pos a]
    have g := h1 x h (by omega)
    revert g
    cases o1 x with
    | inr p => exact fun g => g
    | inl y =>
      intro g
      exact ⟨wf_add g.1 (by have := g.2.2; omega), by have e9 : (addT (-13) y).p = y.p := rfl; have := g.2.1; omega, by
        have e9 : (addT (-13) y).p = y.p := rfl
        have e8 : (addT (-13) y).l = y.l + 1 := rfl
        have := g.2.2; omega⟩
  · rw [if_neg a]
    by_cases b : x.tk = 40
    · rw [if_pos b]
      have g := hE x h (by omega)
      revert g
      cases oE x with
      | inr p => exact fun g => g
      | inl y =>
        intro g
        show GzR m x (if y.tk = 41 then _ else _)
        by_cases e : y.tk = 41
        · rw [if_pos e]
          have y3 := g.1.2.2.1 (by omega)
          have y4 := g.1.2.2.2.1
          have s := stepT_ok (f := f) (x := y) g.1.2.1 (by omega)
          exact ⟨s.1, by have := g.2.1; omega, by have := g.2.2; have := s.2.2.1; omega⟩
        · rw [if_neg e]
          exact ⟨by have := g.2.1; omega, Nat.le_trans g.1.1 g.1.2.1⟩
    · rw [if_neg b]
      have key : ∀ c : Int, x.tk ≠ 301 → GzR m x (.inl (stepT f m (addT c x))) := by
        intro c h3
        have h4 := h.2.2.1 h3
        have s := stepT_ok (f := f) (x := addT c x) h.2.1 (show x.l + 1 ≤ x.nx by omega)
        have e7 : (addT c x).nx = x.nx := rfl
        have e8 : (addT c x).l = x.l + 1 := rfl
        exact ⟨s.1, by have := s.2.1; omega, by have := s.2.2.1; have := s.2.1; omega⟩
      by_cases e : x.tk = 300
      · rw [if_pos e]; exact key _ (by omega)
      · rw [if_neg e]
        by_cases e2 : x.tk < 6
        · rw [if_pos e2]; exact key _ (by omega)
        · rw [if_neg e2]; exact Gz_stop x h
theorem Gz_not {oN sum : TxS → TxR} (hN : GzO m oN) (hS : Gz m sum) : Gz m (notG (stepT f m) oN sum) := by
  intro x h
  unfold notG
  have hx := h.2.2.2.1
  by_cases a : x.tk = 11
  · rw [if_pos a]
    have g := hN x h (by omega)
    revert g
    cases oN x with
    | inr p => exact fun g => g
    | inl y =>
      intro g
      exact ⟨wf_add g.1 (by have := g.2.2; omega), by have e9 : (addT (-12) y).p = y.p := rfl; have := g.2.1; omega, by
        have e9 : (addT (-12) y).p = y.p := rfl
        have e8 : (addT (-12) y).l = y.l + 1 := rfl
        have := g.2.2; omega⟩
  · rw [if_neg a]
    have g := hS x h
    revert g
    cases sum x with
    | inr p => exact fun g => g
    | inl y =>
      intro g
      show GzR m x (if y.tk = 60 ∨ y.tk = 61 then _ else _)
      by_cases e : y.tk = 60 ∨ y.tk = 61
      · rw [if_pos e]
        have g5 := GzO_of (f := f) hS y g.1 (by omega)
        dsimp only at g5
        revert g5
        cases sum (stepT f m y) with
        | inr p => exact fun g5 => ⟨by have := g5.1; have := g.2.1; omega, g5.2⟩
        | inl z =>
          intro g5
          have y4 := g.1.2.2.2.1
          have e9 : (addT (-y.tk) z).p = z.p := rfl
          have e8 : (addT (-y.tk) z).l = z.l + 1 := rfl
          exact ⟨wf_add g5.1 (by have := g5.2.2; omega), by have := g5.2.1; have := g.2.1; omega, by have := g5.2.2; have := g.2.2; omega⟩
      · rw [if_neg e]; exact g
theorem Gz_lv : ∀ r, Gz m (lvG (stepT f m) r).1 ∧ Gz m (lvG (stepT f m) r).2
  | 0 => ⟨Gz_one GzO_stop GzO_stop, Gz_not GzO_stop (Gz_chn (by decide) (Gz_chn (by decide) (Gz_one GzO_stop GzO_stop)))⟩
  | r + 1 => by
    have g := Gz_lv r
    have h1 : Gz m (oneG (stepT f m) (fun x => (lvG (stepT f m) r).1 (stepT f m x)) (fun x => eG (stepT f m) (lvG (stepT f m) r).2 (stepT f m x))) := Gz_one (GzO_of g.1) (GzO_of (Gz_chn (by decide) (Gz_chn (by decide) g.2)))
    exact ⟨h1, Gz_not (GzO_of g.2) (Gz_chn (by decide) (Gz_chn (by decide) h1))⟩
theorem Gz_e (r : Nat) : Gz m (eG (stepT f m) (lvG (stepT f m) r).2) := Gz_chn (by decide) (Gz_chn (by decide) (Gz_lv r).2)
end GDT
