/-! the swaps there are, in order -/
noncomputable def slr (w : Pl) (t n x p : Nat) : Nat → List (Nat × Nat)
  | 0 => []
  | q + 1 => slr w t n x p q ++ if swB w t n x p q = true then [(p, q)] else []
noncomputable def sla (w : Pl) (t n x : Nat) : Nat → List (Nat × Nat)
  | 0 => []
  | p + 1 => sla w t n x p ++ slr w t n x p n
theorem slr_len (w : Pl) (t n x p : Nat) : ∀ q, (slr w t n x p q).length ≤ q := by
  intro q
  induction q with
  | zero => simp [slr]
  | succ q ih =>
    simp only [slr, List.length_append]
    split <;> simp <;> omega
theorem sla_len (w : Pl) (t n x : Nat) : ∀ p, (sla w t n x p).length ≤ p * n := by
  intro p
  induction p with
  | zero => simp [sla]
  | succ p ih =>
    have := slr_len w t n x p n
    simp only [sla, List.length_append]
    rw [Nat.succ_mul]
    omega
def SLs (s : Pl) (l : List (Nat × Nat)) : Prop := s 57 15 = ((l.length : Nat) : Int) ∧ ∀ (i p q : Nat), l[i]? = some (p, q) → s 62 (i : Nat) = (p : Nat) ∧ s 63 (i : Nat) = (q : Nat)
def fSw (s s1 : Pl) : Prop := ∀ c i, c ≠ 62 → c ≠ 63 → (c = 57 → i ≠ 15) → s1 c i = s c i
theorem fSw.trans {s s1 s2 : Pl} (h : fSw s s1) (h2 : fSw s1 s2) : fSw s s2 := fun c i a b e => by rw [h2 c i a b e, h c i a b e]
theorem fSw.world {w s s1 : Pl} (h : fSw s s1) (v : sW w s) : sW w s1 := fun c hc => by
  have := stc_out hc
  rw [← v c hc]
  exact funext fun i => h c i (by omega) (by omega) (by omega)
theorem fSw.lrn {w s s1 : Pl} {t n : Nat} (h : fSw s s1) (v : Lrn w t n s) : Lrn w t n s1 := by
  unfold Lrn at *
  rw [show s1 59 = s 59 from funext fun i => h 59 i (by decide) (by decide) (fun e => absurd e (by decide)), show s1 61 = s 61 from funext fun i => h 61 i (by decide) (by decide) (fun e => absurd e (by decide)), h 57 1 (by decide) (by decide) (by decide), h 57 6 (by decide) (by decide) (by decide), h 57 7 (by decide) (by decide) (by decide), h 57 8 (by decide) (by decide) (by decide), h 57 9 (by decide) (by decide) (by decide), h 57 10 (by decide) (by decide) (by decide)]
  exact v
theorem fSw.look {w s s1 : Pl} {n x : Nat} (h : fSw s s1) (v : lkk w n x s) : lkk w n x s1 := by
  unfold lkk at *
  rw [h 57 11 (by decide) (by decide) (by decide), h 57 12 (by decide) (by decide) (by decide), h 57 13 (by decide) (by decide) (by decide), h 57 14 (by decide) (by decide) (by decide)]
  exact v
variable {xs : Nat → Int} {L : Nat} {d : Nat} {s : Pl}
/-- listSwaps -/
theorem i49 {w : Pl} {t n x : Nat} {P : Pl → Prop} (hd : 4 ≤ d) (hk : wOk w t n) (hw : sW w s) (hl : Lrn w t n s) (hx : lkk w n x s) (h : ∀ s1 : Pl, fSw s s1 → SLs s1 (sla w t n x n) → P s1) : Ev xs L T0 106 d 49 [rf 58] s (qv P) := by
  have hn := hk.1.2
  have e11 : ∀ s1, fSw s s1 → s1 1 1 = (n : Nat) := fun s1 f => by rw [f.world hw 1 rfl]; exact hk.1.1
  have outer : ∀ (j p : Nat) (s1 : Pl) (w2 : Option AV), p + j = n → fSw s s1 → SLs s1 (sla w t n x p) → Fr xs L T0 106 (d - 1) 49 7 [some (rf 58), some (it (p : Nat)), w2] [] s1 (qv P) := by
    intro j
    induction j with
    | zero =>
      intro p s1 w2 hp f1 f2
      have e : p = n := by omega
      subst e
      exact f49_7 ⟨fun _ => h s1 f1 f2, fun z => absurd (by rw [e11 s1 f1]; omega) z⟩
    | succ j ih =>
      intro p s1 w2 hp f1 f2
      have zp : ∀ _ : Unit, zw ((p : Nat) + 1) = ((p + 1 : Nat) : Int) := fun _ => by rw [zw_id (by omega) (by omega)]; omega
      have hpl := sla_len w t n x p
      have hpn : p * n ≤ 30 := by
        have h1 : p * n ≤ 5 * n := Nat.mul_le_mul_right n (by omega)
        omega
      have inner : ∀ (j2 q : Nat) (s2 : Pl), q + j2 = n → fSw s s2 → SLs s2 (sla w t n x p ++ slr w t n x p q) → Fr xs L T0 106 (d - 1) 49 20 [some (rf 58), some (it (p : Nat)), some (it (q : Nat))] [] s2 (qv P) := by
        intro j2
        induction j2 with
        | zero =>
          intro q s2 hq f3 f4
          have e : q = n := by omega
          subst e
          refine f49_20 ⟨fun _ => f49_88 ?_, fun z => absurd (by rw [e11 s2 f3]; omega) z⟩
          rw [zp ()]
          exact ih (p + 1) s2 _ (by omega) f3 f4
        | succ j2 ih2 =>
          intro q s2 hq f3 f4
          have zq : ∀ _ : Unit, zw ((q : Nat) + 1) = ((q + 1 : Nat) : Int) := fun _ => by rw [zw_id (by omega) (by omega)]; omega
          have hql := slr_len w t n x p q
          obtain ⟨g1, g2⟩ := f4
          have hlen : (sla w t n x p ++ slr w t n x p q).length < 36 := by rw [List.length_append]; omega
          generalize hl9 : sla w t n x p ++ slr w t n x p q = l9 at g1 g2 hlen
          refine f49_20 ⟨fun z => absurd z (by rw [e11 s2 f3]; omega), fun _ => ⟨fun z => absurd z (by omega), fun _ => ?_⟩⟩
          refine i47 (by omega) hk (f3.world hw) (f3.lrn hl) (f3.look hx) (by omega) (by omega) (fun hs => ⟨fun z => absurd z (by decide), fun _ => ?_⟩) (fun hs => ⟨fun _ => f49_82 ?_, fun z => absurd rfl z⟩)
          · have hsB := (swB_iff w t n x p q).mpr hs
            have t1 : ∀ (S : Pl) (i v : Int), zup S 62 i v 57 15 = S 57 15 := fun S i v => by rw [zune _ _ _ (by decide)]
            have t2 : ∀ (S : Pl) (i v : Int), zup S 63 i v 57 15 = S 57 15 := fun S i v => by rw [zune _ _ _ (by decide)]
            have z1 : ∀ _ : Unit, zw (((l9.length : Nat) : Int) + 1) = ((l9.length + 1 : Nat) : Int) := fun _ => by rw [zw_id (by omega) (by omega)]; omega
            rw [t2, t1, g1, z1 ()]
            refine ⟨by omega, by omega, f49_82 ?_⟩
            rw [zq ()]
            refine ih2 (q + 1) _ (by omega) (f3.trans fun c i a b e => by rw [zg, if_neg (fun z => e z.1 z.2), zg, if_neg (fun z => b z.1), zg, if_neg (fun z => a z.1)]) ?_
            simp only [slr]
            rw [if_pos hsB, ← List.append_assoc, hl9]
            refine ⟨by rw [zg, if_pos ⟨rfl, rfl⟩, List.length_append]; rfl, fun i p2 q2 hi => ?_⟩
            have h60 : ∀ v : Int, (zup (zup (zup s2 62 ((l9.length : Nat) : Int) (p : Nat)) 63 ((l9.length : Nat) : Int) (q : Nat)) 57 15 v) 62 (i : Nat) = if i = l9.length then ((p : Nat) : Int) else s2 62 (i : Nat) := fun v => by
              rw [zg, if_neg (by omega), zg, if_neg (by omega), zg]
              by_cases e : i = l9.length
              · rw [if_pos ⟨rfl, by omega⟩, if_pos e]
              · rw [if_neg (by omega), if_neg e]
            have h61 : ∀ v : Int, (zup (zup (zup s2 62 ((l9.length : Nat) : Int) (p : Nat)) 63 ((l9.length : Nat) : Int) (q : Nat)) 57 15 v) 63 (i : Nat) = if i = l9.length then ((q : Nat) : Int) else s2 63 (i : Nat) := fun v => by
              rw [zg, if_neg (by omega), zg]
              by_cases e : i = l9.length
              · rw [if_pos ⟨rfl, by omega⟩, if_pos e]
              · rw [if_neg (by omega), if_neg e, zg, if_neg (by omega)]
            rw [h60, h61]
            by_cases e : i = l9.length
            · rw [if_pos e, if_pos e]
              subst e
              rw [List.getElem?_append_right (Nat.le_refl _), Nat.sub_self] at hi
              simp only [List.getElem?_cons_zero, Option.some.injEq, Prod.mk.injEq] at hi
              exact ⟨by omega, by omega⟩
            · have hil : i < l9.length := by
                have := (List.getElem?_eq_some_iff.mp hi).1
                rw [List.length_append] at this
                simp at this
                omega
              rw [List.getElem?_append_left hil] at hi
              rw [if_neg e, if_neg e]
              exact g2 i p2 q2 hi
          · have hsB : ¬ swB w t n x p q = true := fun z => hs ((swB_iff w t n x p q).mp z)
            rw [zq ()]
            refine ih2 (q + 1) s2 (by omega) f3 ?_
            simp only [slr]
            rw [if_neg hsB, List.append_nil, hl9]
            exact ⟨g1, g2⟩
      refine f49_7 ⟨fun z => absurd z (by rw [e11 s1 f1]; omega), fun _ => inner n 0 s1 (by omega) f1 ?_⟩
      simp only [slr, List.append_nil]
      exact f2
  refine e49 (by omega) (f49_0 (outer n 0 _ _ (by omega) (fun c i a b e => by rw [zg, if_neg (fun z => e z.1 z.2)]) ⟨?_, fun i p q hi => ?_⟩))
  · rw [zg, if_pos ⟨rfl, rfl⟩]; rfl
  · simp [sla] at hi
