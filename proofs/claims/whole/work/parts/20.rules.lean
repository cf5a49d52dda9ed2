/-! RULES FOR THE WALKER: a place in a method's run, from which it ends so that Q holds -/
def yo (y : Nat) : Nat := if y = 247 then 15 else (zm y).2.2.2.2.1
def yr (y : Nat) : Nat := if y = 247 then 2 else (zm y).2.2.2.2.2.1
def yi (y : Nat) : Bool := if y = 247 then false else decide ((zm y).1.name = "<init>")
def it (x : Int) : AV := .inl x
def lg (x : Int) : AV := .inr (.inl x)
def rf (c : Nat) : AV := .inr (.inr c)
def zLe (a b : ZX) : Prop := ∀ y as n s x, a y as n s = some x → b y as n s = some x
section ZR
variable {xs : Nat → Int} {L : Nat}
theorem zrun_le {ex ex2 : ZX} (h : zLe ex ex2) {y o rt : Nat} {ini : Bool} : ∀ (N M : Nat) (f : Fm) (x : Option AV × Nat × Pl), N ≤ M → zrun xs L ex y o rt ini N f = some x → zrun xs L ex2 y o rt ini M f = some x := by
  intro N
  induction N with
  | zero => intro M f x _ hx; cases hx
  | succ N ih =>
    intro M f x hM hx
    obtain ⟨K, rfl⟩ : ∃ K, M = K + 1 := ⟨M - 1, by omega⟩
    unfold zrun at hx ⊢
    cases hi : zi y f.1 with
    | none => rw [hi] at hx; cases hx
    | some iz =>
      obtain ⟨i, z⟩ := iz
      rw [hi] at hx
      dsimp only at hx ⊢
      cases hr : zret rt i f.2.2.1 with
      | some r0 => rw [hr] at hx; exact hx
      | none =>
        rw [hr] at hx
        dsimp only at hx ⊢
        cases hc : zcal o i with
        | some y2 =>
          rw [hc] at hx
          dsimp only at hx ⊢
          split at hx
          · next hok =>
            rw [if_pos hok]
            cases he : ex y2 (f.2.2.1.take (zm y2).2.2.2.2.2.2.1).reverse f.2.2.2.1 f.2.2.2.2 with
            | none => rw [he] at hx; cases hx
            | some q =>
              rw [he] at hx
              rw [h _ _ _ _ _ he]
              exact ih K _ x (by omega) hx
          · cases hx
        | none =>
          rw [hc] at hx
          dsimp only at hx ⊢
          cases hs : zstep xs L o ini i z f with
          | none => rw [hs] at hx; cases hx
          | some f2 =>
            rw [hs] at hx
            exact ih K _ x (by omega) hx
theorem zex_le {N M : Nat} (h : N ≤ M) : ∀ d, zLe (zex xs L N d) (zex xs L M d) := by
  intro d
  induction d with
  | zero => intro y as n s x hx; cases hx
  | succ d ih => intro y as n s x hx; exact zrun_le ih N M _ x h hx
end ZR
variable (xs : Nat → Int) (L : Nat)
/-- a frame's run -/
def Gr (d y pc : Nat) (lv : LVs) (st : List AV) (n : Nat) (s : Pl) (Q : Option AV → Nat → Pl → Prop) : Prop :=
  ∃ (N : Nat) (r : Option AV) (n2 : Nat) (s2 : Pl), zrun xs L (zex xs L N d) y (yo y) (yr y) (yi y) N (pc, lv, st, n, s) = some (r, n2, s2) ∧ Q r n2 s2
/-- a call -/
def Er (d y : Nat) (as : List AV) (n : Nat) (s : Pl) (Q : Option AV → Nat → Pl → Prop) : Prop :=
  ∃ (N : Nat) (r : Option AV) (n2 : Nat) (s2 : Pl), zex xs L N d y as n s = some (r, n2, s2) ∧ Q r n2 s2
variable {xs : Nat → Int} {L : Nat}
theorem Gr.step {d y pc : Nat} {lv lv2 : LVs} {st st2 : List AV} {n n2 pc2 z : Nat} {s s2 : Pl} {Q : Option AV → Nat → Pl → Prop} {i : Instr} (hi : zi y pc = some (i, z)) (hr : zret (yr y) i st = none) (hc : zcal (yo y) i = none) (hs : zstep xs L (yo y) (yi y) i z (pc, lv, st, n, s) = some (pc2, lv2, st2, n2, s2)) (k : Gr xs L d y pc2 lv2 st2 n2 s2 Q) : Gr xs L d y pc lv st n s Q := by
  obtain ⟨N, r, n3, s3, h1, h2⟩ := k
  refine ⟨N + 1, r, n3, s3, ?_, h2⟩
  unfold zrun
  dsimp only
  rw [hi]
  dsimp only
  rw [hr]
  dsimp only
  rw [hc]
  dsimp only
  rw [hs]
  exact zrun_le (zex_le (by omega) d) N N _ _ (Nat.le_refl _) h1
theorem Gr.ret {d y pc : Nat} {lv : LVs} {st : List AV} {n z : Nat} {s : Pl} {Q : Option AV → Nat → Pl → Prop} {i : Instr} {r : Option AV} (hi : zi y pc = some (i, z)) (hr : zret (yr y) i st = some r) (k : Q r n s) : Gr xs L d y pc lv st n s Q := by
  refine ⟨1, r, n, s, ?_, k⟩
  unfold zrun
  dsimp only
  rw [hi]
  dsimp only
  rw [hr]
theorem Gr.call {d y pc y2 na : Nat} {lv : LVs} {st as rest : List AV} {n z : Nat} {s : Pl} {Q Q2 : Option AV → Nat → Pl → Prop} {i : Instr} (hi : zi y pc = some (i, z)) (hr : zret (yr y) i st = none) (hc : zcal (yo y) i = some y2) (hna : (zm y2).2.2.2.2.2.2.1 = na) (hst : st = as.reverse ++ rest) (hl : as.length = na) (hok : zcallok i y2 n as rest = true) (hcall : Er xs L d y2 as n s Q2)
    (k : ∀ r n2 s2, Q2 r n2 s2 → Gr xs L d y (pc + z) lv (r.toList ++ rest) n2 s2 Q) : Gr xs L d y pc lv st n s Q := by
  obtain ⟨N1, r, n2, s2, h1, h2⟩ := hcall
  obtain ⟨N2, r3, n3, s3, h3, h4⟩ := k r n2 s2 h2
  subst hna
  have e1 : (st.take (zm y2).2.2.2.2.2.2.1).reverse = as := by
    rw [hst, ← hl, ← List.length_reverse, List.take_left, List.reverse_reverse]
  have e2 : st.drop (zm y2).2.2.2.2.2.2.1 = rest := by
    rw [hst, ← hl, ← List.length_reverse, List.drop_left]
  refine ⟨N1 + N2 + 1, r3, n3, s3, ?_, h4⟩
  unfold zrun
  dsimp only
  rw [hi]
  dsimp only
  rw [hr]
  dsimp only
  rw [hc]
  dsimp only
  rw [e1, e2, if_pos ⟨by rw [hst, List.length_append, List.length_reverse]; omega, hok⟩, zex_le (show N1 ≤ N1 + N2 + 1 by omega) d _ _ _ _ _ h1]
  dsimp only
  exact zrun_le (zex_le (by omega) d) N2 (N1 + N2) _ _ (by omega) h3
theorem Er.of {d y : Nat} {as : List AV} {n : Nat} {s : Pl} {Q : Option AV → Nat → Pl → Prop} (hy : y < 247) (lv : LVs) (hlv : as.map some ++ List.replicate ((zm y).2.2.1 - as.length) none = lv) (k : Gr xs L d y 0 lv [] n s Q) : Er xs L (d + 1) y as n s Q := by
  obtain ⟨N, r, n2, s2, h1, h2⟩ := k
  refine ⟨N, r, n2, s2, ?_, h2⟩
  unfold zex
  rw [hlv]
  have e1 : yo y = (zm y).2.2.2.2.1 := by unfold yo; rw [if_neg (by omega)]
  have e2 : yr y = (zm y).2.2.2.2.2.1 := by unfold yr; rw [if_neg (by omega)]
  have e3 : yi y = decide ((zm y).1.name = "<init>") := by unfold yi; rw [if_neg (by omega)]
  rw [e1, e2, e3] at h1
  exact h1
theorem Gr.mono {d y pc : Nat} {lv : LVs} {st : List AV} {n : Nat} {s : Pl} {Q Q2 : Option AV → Nat → Pl → Prop} (h : Gr xs L d y pc lv st n s Q) (k : ∀ r n2 s2, Q r n2 s2 → Q2 r n2 s2) : Gr xs L d y pc lv st n s Q2 := by
  obtain ⟨N, r, n2, s2, h1, h2⟩ := h
  exact ⟨N, r, n2, s2, h1, k _ _ _ h2⟩
theorem Er.mono {d y : Nat} {as : List AV} {n : Nat} {s : Pl} {Q Q2 : Option AV → Nat → Pl → Prop} (h : Er xs L d y as n s Q) (k : ∀ r n2 s2, Q r n2 s2 → Q2 r n2 s2) : Er xs L d y as n s Q2 := by
  obtain ⟨N, r, n2, s2, h1, h2⟩ := h
  exact ⟨N, r, n2, s2, h1, k _ _ _ h2⟩
theorem zrun_dmono {ex ex2 : ZX} {N : Nat} (h : zLe ex ex2) {y o rt : Nat} {ini : Bool} {f : Fm} {x : Option AV × Nat × Pl} (hx : zrun xs L ex y o rt ini N f = some x) : zrun xs L ex2 y o rt ini N f = some x := zrun_le h N N f x (Nat.le_refl _) hx
theorem zex_dle {N : Nat} : ∀ d, zLe (zex xs L N d) (zex xs L N (d + 1)) := by
  intro d
  induction d with
  | zero => intro y as n s x hx; cases hx
  | succ d ih => intro y as n s x hx; exact zrun_dmono ih hx
theorem zex_dle2 {N d d2 : Nat} (h : d ≤ d2) : zLe (zex xs L N d) (zex xs L N d2) := by
  induction h with
  | refl => exact fun _ _ _ _ _ h => h
  | step _ ih => exact fun y as n s x hx => zex_dle _ _ _ _ _ _ (ih _ _ _ _ _ hx)
theorem Er.up {d d2 y : Nat} {as : List AV} {n : Nat} {s : Pl} {Q : Option AV → Nat → Pl → Prop} (h : Er xs L d y as n s Q) (hd : d ≤ d2) : Er xs L d2 y as n s Q := by
  obtain ⟨N, r, n2, s2, h1, h2⟩ := h
  exact ⟨N, r, n2, s2, zex_dle2 hd _ _ _ _ _ h1, h2⟩
