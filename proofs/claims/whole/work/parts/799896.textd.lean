/-! a TEXT's codes keep the pile in its bounds -/
theorem dp_s (f : Int → Int) (b j h : Nat) : dp f b (j + 1) h = if -6 ≤ f ((b : Nat) : Int) then (if h < 31 then dp f (b + 1) j (h + 1) else none) else if f ((b : Nat) : Int) = -12 ∨ f ((b : Nat) : Int) = -13 then (if 1 ≤ h then dp f (b + 1) j h else none) else if 2 ≤ h then dp f (b + 1) j (h - 1) else none := rfl
theorem dp_app {f : Int → Int} (j2 : Nat) : ∀ (j1 b h : Nat), dp f b (j1 + j2) h = (dp f b j1 h).bind (fun q => dp f (b + j1) j2 q)
  | 0, b, h => by
    rw [Nat.zero_add]; rfl
  | j + 1, b, h => by
    rw [show j + 1 + j2 = (j + j2) + 1 from by omega, dp_s, dp_s f b j, show b + (j + 1) = (b + 1) + j from by omega]
    split
    · split
      · exact dp_app j2 j (b + 1) (h + 1)
      · rfl
    · split
      · split
        · exact dp_app j2 j (b + 1) h
        · rfl
      · split
        · exact dp_app j2 j (b + 1) (h - 1)
        · rfl
theorem dp_cong {f g : Int → Int} : ∀ (j b h : Nat), (∀ i : Nat, b ≤ i → i < b + j → f ((i : Nat) : Int) = g ((i : Nat) : Int)) → dp f b j h = dp g b j h
  | 0, b, h, _ => rfl
  | j + 1, b, h, q => by
    unfold dp
    rw [q b (Nat.le_refl _) (by omega), dp_cong j (b + 1) (h + 1) (fun i a c => q i (by omega) (by omega)), dp_cong j (b + 1) h (fun i a c => q i (by omega) (by omega)), dp_cong j (b + 1) (h - 1) (fun i a c => q i (by omega) (by omega))]
def HdI (k : Nat) (x y : TxS) : Prop := x.l ≤ y.l ∧ (∀ i : Nat, i < x.l → y.C ((i : Nat) : Int) = x.C ((i : Nat) : Int)) ∧ (∀ i : Nat, x.l ≤ i → i < y.l → okc (y.C ((i : Nat) : Int))) ∧ ∀ h : Nat, h + k ≤ 31 → dp y.C x.l (y.l - x.l) h = some (h + 1)
def HdR (k : Nat) (x : TxS) : TxR → Prop
  | .inl y => HdI k x y
  | .inr _ => True
def Hz (m k : Nat) (F : TxS → TxR) : Prop := ∀ x, wfS m x → HdR k x (F x)
theorem HdI.up {k k2 : Nat} {x y : TxS} (h : HdI k x y) (hk : k ≤ k2) : HdI k2 x y := ⟨h.1, h.2.1, h.2.2.1, fun q hq => h.2.2.2 q (by omega)⟩
theorem HdR.up {k k2 : Nat} {x : TxS} {r : TxR} (h : HdR k x r) (hk : k ≤ k2) : HdR k2 x r := by
  cases r with
  | inl y => exact HdI.up h hk
  | inr p => trivial
theorem addT_C {c : Int} {x : TxS} {i : Nat} (h : i < x.l) : (addT c x).C ((i : Nat) : Int) = x.C ((i : Nat) : Int) := by
  show (if ((i : Nat) : Int) = ((x.l : Nat) : Int) then c else x.C ((i : Nat) : Int)) = _
  rw [if_neg (by omega)]
theorem addT_C2 {c : Int} {x : TxS} : (addT c x).C ((x.l : Nat) : Int) = c := by
  show (if ((x.l : Nat) : Int) = ((x.l : Nat) : Int) then c else x.C ((x.l : Nat) : Int)) = _
  rw [if_pos rfl]
theorem HdI.bin {k : Nat} {x y z : TxS} {c : Int} (h1 : HdI (k + 1) x y) (h2 : HdI k y z) (hc : isB c) : HdI (k + 1) x (addT c z) := by
  obtain ⟨a1, a2, a3, a4⟩ := h1
  obtain ⟨b1, b2, b3, b4⟩ := h2
  have e8 : (addT c z).l = z.l + 1 := rfl
  refine ⟨by omega, fun i hi => ?_, fun i hi hi2 => ?_, fun h hh => ?_⟩
  · rw [addT_C (by omega), b2 i (by omega), a2 i hi]
  · by_cases e : i = z.l
    · rw [e, addT_C2]; exact Or.inr (Or.inr (Or.inr hc))
    · rw [addT_C (by omega)]
      by_cases e2 : i < y.l
      · rw [b2 i e2]; exact a3 i hi e2
      · exact b3 i (by omega) (by omega)
  · have n := isB_neg hc
    rw [e8, show z.l + 1 - x.l = (y.l - x.l) + ((z.l - y.l) + 1) from by omega, dp_app, dp_cong (g := y.C) _ _ _ (fun i hi hi2 => by rw [addT_C (by omega), b2 i (by omega)]), a4 h hh]
    show dp (addT c z).C (x.l + (y.l - x.l)) (z.l - y.l + 1) (h + 1) = some (h + 1)
    rw [show x.l + (y.l - x.l) = y.l from by omega, dp_app, dp_cong (g := z.C) _ _ _ (fun i hi hi2 => addT_C (by omega)), b4 (h + 1) (by omega)]
    show dp (addT c z).C (y.l + (z.l - y.l)) 1 (h + 1 + 1) = some (h + 1)
    rw [show y.l + (z.l - y.l) = z.l from by omega]
    unfold dp
    rw [addT_C2, if_neg (by omega), if_neg (by omega), if_pos (by omega)]
    rfl
theorem HdI.un {k : Nat} {x y : TxS} {c : Int} (h : HdI k x y) (hc : c = -12 ∨ c = -13) : HdI k x (addT c y) := by
  obtain ⟨a1, a2, a3, a4⟩ := h
  have e8 : (addT c y).l = y.l + 1 := rfl
  refine ⟨by omega, fun i hi => ?_, fun i hi hi2 => ?_, fun h hh => ?_⟩
  · rw [addT_C (by omega), a2 i hi]
  · by_cases e : i = y.l
    · rw [e, addT_C2]; unfold okc; omega
    · rw [addT_C (by omega)]; exact a3 i hi (by omega)
  · rw [e8, show y.l + 1 - x.l = (y.l - x.l) + 1 from by omega, dp_app, dp_cong (g := y.C) _ _ _ (fun i hi hi2 => addT_C (by omega)), a4 h hh]
    show dp (addT c y).C (x.l + (y.l - x.l)) 1 (h + 1) = some (h + 1)
    rw [show x.l + (y.l - x.l) = y.l from by omega]
    unfold dp
    rw [addT_C2, if_neg (by omega), if_pos hc, if_pos (by omega)]
    rfl
theorem HdI.leaf {x : TxS} {c : Int} (hc : -6 ≤ c) : HdI 1 x (addT c x) := by
  have e8 : (addT c x).l = x.l + 1 := rfl
  refine ⟨by omega, fun i hi => addT_C hi, fun i hi hi2 => ?_, fun h hh => ?_⟩
  · rw [show i = x.l from by omega, addT_C2]; exact Or.inl hc
  · rw [e8, show x.l + 1 - x.l = 1 from by omega]
    unfold dp
    rw [addT_C2, if_pos hc, if_pos (by omega)]
    rfl
section HDT
variable {f : Int → Int} {m k : Nat} {op : Int → Option Int}
theorem Hz_lp {F : TxS → TxR} (hop : op 301 = none) (hb : ∀ q c, op q = some c → isB c) (hG : Gz m F) (hF : Hz m k F) (x0 : TxS) : ∀ j x, wfS m x → HdI (k + 1) x0 x → HdR (k + 1) x0 (lpT op (stepT f m) F j x)
  | 0, x, h, _ => trivial
  | j + 1, x, h, hx => by
    unfold lpT
    cases e : op x.tk with
    | none => exact hx
    | some c =>
      dsimp only
      have h3 : x.tk ≠ 301 := fun w => by rw [w, hop] at e; cases e
      have hl := h.2.2.2.1
      have h4 := h.2.2.1 h3
      have s := stepT_ok (f := f) (x := x) h.2.1 (by omega)
      have g := hG _ s.1
      have v := hF _ s.1
      revert g v
      cases F (stepT f m x) with
      | inr p => exact fun _ _ => trivial
      | inl y =>
        intro g v
        exact Hz_lp hop hb hG hF x0 j (addT c y) (wf_add g.1 (by have := g.2.2; have := s.2.2.1; have := s.2.1; omega)) (HdI.bin hx v (hb _ _ e))
theorem Hz_chn {F : TxS → TxR} (hop : op 301 = none) (hb : ∀ q c, op q = some c → isB c) (hG : Gz m F) (hF : Hz m k F) : Hz m (k + 1) (chn op (stepT f m) F) := by
  intro x h
  unfold chn
  have g := hG x h
  have v := hF x h
  revert g v
  cases F x with
  | inr p => exact fun _ _ => trivial
  | inl y => exact fun g v => Hz_lp hop hb hG hF x 161 y g.1 (HdI.up v (by omega))
theorem opO_B : ∀ q c, opO q = some c → isB c := fun q c h => by unfold opO at h; split at h <;> cases h; exact Or.inl rfl
theorem opA_B : ∀ q c, opA q = some c → isB c := fun q c h => by unfold opA at h; split at h <;> cases h; exact Or.inr (Or.inl rfl)
theorem opM_B : ∀ q c, opM q = some c → isB c := fun q c h => by unfold opM at h; split at h <;> cases h; exact Or.inr (Or.inr (Or.inl rfl))
theorem opS_B : ∀ q c, opS q = some c → isB c := fun q c h => by
  unfold opS at h
  split at h
  · next w => cases h; unfold isB; omega
  · cases h
def HzO (m k : Nat) (F : TxS → TxR) : Prop := ∀ x, wfS m x → x.tk ≠ 301 → HdR k x (F x)
theorem HzO_of {F : TxS → TxR} (hF : Hz m k F) : HzO m k (fun x => F (stepT f m x)) := by
  intro x h h3
  have hl := h.2.2.2.1
  have h4 := h.2.2.1 h3
  have s := stepT_ok (f := f) (x := x) h.2.1 (by omega)
  have v := hF _ s.1
  revert v
  dsimp only
  cases F (stepT f m x) with
  | inr p => exact fun _ => trivial
  | inl y => exact fun v => v
theorem HzO.up {k2 : Nat} {F : TxS → TxR} (h : HzO m k F) (hk : k ≤ k2) : HzO m k2 F := fun x a b => HdR.up (h x a b) hk
theorem HzO_stop : HzO m k stopG := fun _ _ _ => trivial
theorem Hz_one {o1 oE : TxS → TxR} (hk : 1 ≤ k) (h1 : HzO m k o1) (hE : HzO m k oE) : Hz m k (oneG (stepT f m) o1 oE) := by
  intro x h
  unfold oneG
  by_cases a : x.tk = 45
  · rw [if_pos a]
    have g := h1 x h (by omega)
    revert g
    cases o1 x with
    | inr p => exact fun _ => trivial
    | inl y => exact fun g => HdI.un g (Or.inr rfl)
  · rw [if_neg a]
    by_cases b : x.tk = 40
    · rw [if_pos b]
      have g := hE x h (by omega)
      revert g
      cases oE x with
      | inr p => exact fun _ => trivial
      | inl y =>
        intro g
        show HdR k x (if y.tk = 41 then _ else _)
        by_cases e : y.tk = 41
        · rw [if_pos e]; exact g
        · rw [if_neg e]; trivial
    · rw [if_neg b]
      have key : ∀ c : Int, -6 ≤ c → HdR k x (.inl (stepT f m (addT c x))) := fun c hc => HdI.up (HdI.leaf (x := x) hc) hk
      by_cases e : x.tk = 300
      · rw [if_pos e]; exact key _ (by have := h.2.2.2.2.2.2 e; omega)
      · rw [if_neg e]
        by_cases e2 : x.tk < 6
        · rw [if_pos e2]; exact key _ (by have := h.2.2.2.2.1; omega)
        · rw [if_neg e2]; trivial
theorem Hz_not {oN sum : TxS → TxR} (hN : HzO m (k + 1) oN) (hG : Gz m sum) (hS : Hz m k sum) : Hz m (k + 1) (notG (stepT f m) oN sum) := by
  intro x h
  unfold notG
  by_cases a : x.tk = 11
  · rw [if_pos a]
    have g := hN x h (by omega)
    revert g
    cases oN x with
    | inr p => exact fun _ => trivial
    | inl y => exact fun g => HdI.un g (Or.inl rfl)
  · rw [if_neg a]
    have g := hG x h
    have v := hS x h
    revert g v
    cases sum x with
    | inr p => exact fun _ _ => trivial
    | inl y =>
      intro g v
      show HdR (k + 1) x (if y.tk = 60 ∨ y.tk = 61 then _ else _)
      by_cases e : y.tk = 60 ∨ y.tk = 61
      · rw [if_pos e]
        have v5 := HzO_of (f := f) hS y g.1 (by omega)
        dsimp only at v5
        revert v5
        cases sum (stepT f m y) with
        | inr p => exact fun _ => trivial
        | inl z => exact fun v5 => HdI.bin (HdI.up v (by omega)) v5 (by unfold isB; omega)
      · rw [if_neg e]; exact HdI.up v (by omega)
theorem Hz_lv : ∀ r, Hz m (5 * r + 1) (lvG (stepT f m) r).1 ∧ Hz m (5 * r + 4) (lvG (stepT f m) r).2
  | 0 => by
    have g1 : Gz m (oneG (stepT f m) stopG stopG) := Gz_one GzO_stop GzO_stop
    have h1 : Hz m 1 (oneG (stepT f m) stopG stopG) := Hz_one (Nat.le_refl _) HzO_stop HzO_stop
    exact ⟨h1, Hz_not HzO_stop (Gz_chn (by decide) (Gz_chn (by decide) g1)) (Hz_chn (by decide) opS_B (Gz_chn (by decide) g1) (Hz_chn (by decide) opM_B g1 h1))⟩
  | r + 1 => by
    have g := Gz_lv (f := f) (m := m) r
    have h := Hz_lv r
    have hE : Hz m (5 * r + 6) (eG (stepT f m) (lvG (stepT f m) r).2) := Hz_chn (by decide) opO_B (Gz_chn (by decide) g.2) (Hz_chn (by decide) opA_B g.2 h.2)
    have g1 := (Gz_lv (f := f) (m := m) (r + 1)).1
    have h1 : Hz m (5 * r + 6) (lvG (stepT f m) (r + 1)).1 := Hz_one (by omega) (HzO.up (HzO_of h.1) (by omega)) (HzO_of hE)
    exact ⟨h1, Hz_not (HzO.up (HzO_of h.2) (by omega)) (Gz_chn (by decide) (Gz_chn (by decide) g1)) (Hz_chn (by decide) opS_B (Gz_chn (by decide) g1) (Hz_chn (by decide) opM_B g1 h1))⟩
theorem Hz_e (r : Nat) : Hz m (5 * r + 6) (eG (stepT f m) (lvG (stepT f m) r).2) := Hz_chn (by decide) opO_B (Gz_chn (by decide) (Gz_lv r).2) (Hz_chn (by decide) opA_B (Gz_lv r).2 (Hz_lv r).2)
/-- one part of a TEXT -/
theorem pt_ok {q : Int} (hq : 0 ≤ q ∧ q < 3) {x : TxS} (h : wfS m x) : (∀ y, ptG (stepT f m) q x = .inl y → wfS m y ∧ HdI 31 x y ∧ x.p ≤ y.p) ∧ ∀ p, ptG (stepT f m) q x = .inr p → x.p ≤ p ∧ p ≤ m := by
  unfold ptG
  by_cases a : x.tk = 6 + q
  · rw [if_pos a]
    have g := GzO_of (f := f) (Gz_e (f := f) 5) x h (by omega)
    have v := HzO_of (f := f) (Hz_e (f := f) 5) x h (by omega)
    dsimp only at g v
    revert g v
    cases eG (stepT f m) (lvG (stepT f m) 5).2 (stepT f m x) with
    | inr p => exact fun g _ => ⟨fun y w => by (cases w), fun p2 w => by cases w; exact g⟩
    | inl y =>
      intro g v
      obtain ⟨g1, g2, g3⟩ := g
      have y4 := g1.2.2.2.1
      have y1 := g1.1
      have y2 := g1.2.1
      show (∀ z, (if y.tk = 59 then _ else _) = _ → _) ∧ (∀ p, (if y.tk = 59 then _ else _) = _ → _)
      by_cases e : y.tk = 59
      · have s := stepT_ok (f := f) (x := y) g1.2.1 (by omega)
        rw [if_pos e]
        exact ⟨fun z w => by cases w; exact ⟨s.1, v, by have := s.2.1; omega⟩, fun p w => by (cases w)⟩
      · rw [if_neg e]
        exact ⟨fun z w => by (cases w), fun p w => by cases w; omega⟩
  · rw [if_neg a]
    exact ⟨fun y w => by (cases w), fun p w => by cases w; have := h.1; have := h.2.1; omega⟩
theorem tx_gd {am0 : Int} {C0 : Int → Int} {e0 e1 : Nat} {z : TxS} (hm : m ≤ 160) (h : txG f m am0 C0 = .inl (e0, e1, z)) {g : Int → Int} (h0 : g 0 = ((e0 : Nat) : Int)) (h1 : g 1 = ((e1 : Nat) : Int)) (h2 : g 2 = ((z.l : Nat) : Int)) : gd z.C g := by
  have s := stepT_ok (f := f) (m := m) (x := (0, 0, 0, am0, 0, C0)) (Nat.zero_le _) (Nat.le_refl _)
  unfold txG at h
  have v0 := pt_ok (f := f) (m := m) (q := 0) (by decide) s.1
  revert v0 h
  have hl : (stepT f m (0, 0, 0, am0, 0, C0)).l = 0 := rfl
  generalize stepT f m (0, 0, 0, am0, 0, C0) = x0 at *
  cases ptG (stepT f m) 0 x0 with
  | inr p => exact fun h => by (cases h)
  | inl x =>
    intro h v0
    obtain ⟨w0, d0, -⟩ := v0.1 x rfl
    dsimp only at h
    have v1 := pt_ok (f := f) (m := m) (q := 1) (by decide) w0
    revert v1 h
    cases ptG (stepT f m) 1 x with
    | inr p => exact fun h => by (cases h)
    | inl y =>
      intro h v1
      obtain ⟨w1, d1, -⟩ := v1.1 y rfl
      dsimp only at h
      have v2 := pt_ok (f := f) (m := m) (q := 2) (by decide) w1
      revert v2 h
      cases ptG (stepT f m) 2 y with
      | inr p => exact fun h => by (cases h)
      | inl z2 =>
        intro h v2
        obtain ⟨w2, d2, -⟩ := v2.1 z2 rfl
        dsimp only at h
        by_cases e : z2.tk = 301
        · rw [if_pos e] at h
          cases h
          obtain ⟨a1, a2, a3, a4⟩ := d0
          obtain ⟨b1, b2, b3, b4⟩ := d1
          obtain ⟨c1, c2, c3, c4⟩ := d2
          have k1 := w2.1
          have k2 := w2.2.1
          have k3 := w2.2.2.2.1
          refine ⟨x.l, y.l, z.l, ⟨b1, c1, by omega⟩, ⟨h0, h1, h2⟩, fun k hk => ?_, ?_, ?_, ?_⟩
          · by_cases u : k < y.l
            · rw [c2 k u]
              by_cases u2 : k < x.l
              · rw [b2 k u2]; exact a3 k (by omega) u2
              · exact b3 k (by omega) u
            · exact c3 k (by omega) hk
          · have := a4 0 (by decide)
            rw [hl, Nat.sub_zero] at this
            rw [dp_cong (f := z.C) (g := x.C) _ _ _ (fun i _ hi => by rw [c2 i (by omega), b2 i (by omega)])]
            exact this
          · rw [dp_cong (f := z.C) (g := y.C) _ _ _ (fun i _ hi => by rw [c2 i (by omega)])]
            exact b4 0 (by decide)
          · exact c4 0 (by decide)
        · rw [if_neg e] at h; cases h
end HDT
