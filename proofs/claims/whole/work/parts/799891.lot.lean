/-! one lot, in the reference -/
/-- what a draw changes of the reference -/
def fLt (n : Nat) (s s1 : Pl) : Prop := ∀ c i, c ≠ 85 → c ≠ 86 → (c = 75 → i < 0 ∨ ((n : Nat) : Int) ≤ i) → (c = 72 → i ≠ 2 ∧ i ≠ 44) → s1 c i = s c i
theorem fLt.trans {n : Nat} {s s1 s2 : Pl} (h : fLt n s s1) (h2 : fLt n s1 s2) : fLt n s s2 := fun c i a b e f => by rw [h2 c i a b e f, h c i a b e f]
theorem fLt.mst {n n2 : Nat} {w s s1 : Pl} {t : Nat} (h : fLt n s s1) (v : Mst w t n2 s) : Mst w t n2 s1 := cMst (fun c i hm => by have := mMs_out hm; exact h c i (by omega) (by omega) (by omega) (by omega)) v
theorem kG.fLt {n : Nat} {s s1 : Pl} (h : kG s s1) : fLt n s s1 := fun c i a b _ _ => h c i a b
variable {xs : Nat → Int} {L : Nat} {d : Nat} {s : Pl}
/-- doLot -/
theorem i214 {w : Pl} {t n x lot : Nat} {P : Pl → Prop} (hd : 5 ≤ d) (hk : wOk w t n) (hm : Mst w t n s) (hxo : okx n x) (hx : mx n x s) (hlot : lot < (sla w t n x n).length + 3) (h44 : 0 ≤ s 72 44 ∧ s 72 44 ≤ 100000) (h : ∀ s2 : Pl, mx n (ltx w t n x lot) s2 → fLt n s s2 → s2 72 44 = s 72 44 + lth w t n x lot → P s2) : Ev xs L T0 106 d 214 [rf 73, it (lot : Nat)] s (qv P) := by
  have hn := hk.1.2
  have hb := bt_lt x
  have hlen : (sla w t n x n).length ≤ 36 := Nat.le_trans (sla_len w t n x n) (Nat.mul_le_mul hn hn)
  -- the rows
  have rows : ∀ (j l v2 : Nat) (s1 : Pl) (w4 : Option AV), l + j = 4 → kG s s1 → (sla w t n x n).length ≤ lot → v2 + l = lot - (sla w t n x n).length + (if bt x < l then 1 else 0) → Fr xs L T0 106 (d - 1) 214 66 [some (rf 73), some (it (lot : Nat)), some (it (v2 : Nat)), some (it (l : Nat)), w4] [] s1 (qv P) := by
    intro j
    induction j with
    | zero =>
      intro l v2 s1 w4 hl f hge hv
      have : l = 4 := by omega
      subst this
      rw [if_pos hb] at hv
      omega
    | succ j ih =>
      intro l v2 s1 w4 hl f hge hv
      have zl1 : ∀ _ : Unit, zw ((l : Nat) + 1) = ((l + 1 : Nat) : Int) := fun _ => by rw [zw_id (by omega) (by omega)]; omega
      have e2 : s1 72 2 = (bt x : Nat) := (f.mx hx).1
      have hv40 : v2 ≤ 40 := by split at hv <;> omega
      refine f214_66 ⟨fun z => absurd z (by omega), fun _ => ?_⟩
      rw [e2]
      refine ⟨fun z1 => ⟨fun z2 => f214_113 ?_, fun z2 => ?_⟩, fun z1 => f214_113 ?_⟩
      · have zv : ∀ _ : Unit, zw ((v2 : Nat) + (-1)) = ((v2 - 1 : Nat) : Int) := fun _ => by rw [zw_id (by omega) (by omega)]; omega
        rw [zl1 (), zv ()]
        refine ih (l + 1) (v2 - 1) s1 _ (by omega) f hge ?_
        by_cases e : bt x < l
        · rw [if_pos e] at hv; rw [if_pos (by omega)]; omega
        · rw [if_neg e] at hv; rw [if_neg (by omega)]; omega
      · refine i165w (by omega) hk (f.mst hm) hb (by omega) fun s3 f3 => ?_
        have e44 : s1 72 44 = s 72 44 := f 72 44 (by decide) (by decide)
        have r := RW_rng w t (bt x) l
        have eR : RW w t (bt x) l = rowV w t (bt x) l := by unfold RW; rw [if_neg (by omega)]
        rw [← eR, e44, zw_id (by omega) (by omega)]
        have el : lrow (bt x) (lot - (sla w t n x n).length) = l := by
          unfold lrow
          by_cases e : bt x < l
          · rw [if_pos e] at hv; rw [if_pos (by omega)]; omega
          · rw [if_neg e] at hv; rw [if_neg (by omega)]; omega
        have hx3 := (f.trans f3).mx hx
        refine h _ ?_ ?_ ?_
        · unfold ltx
          rw [if_neg (by omega), el]
          exact mx_rwd hn (by omega) ⟨by rw [zg, if_neg (by decide)]; exact hx3.1, fun r hr => by rw [zg, if_neg (fun q => absurd q.1 (by decide))]; exact hx3.2 r hr⟩
        · intro c i a b _ g
          rw [zg, if_neg (fun q => by have := g q.1; omega), zg, if_neg (fun q => by have := g q.1; omega)]
          exact (f.trans f3) c i a b
        · unfold lth
          rw [if_neg (by omega), el, zg, if_neg (by decide), zg, if_pos ⟨rfl, rfl⟩]
      · rw [zl1 ()]
        refine ih (l + 1) v2 s1 _ (by omega) f hge ?_
        rw [if_neg (by omega)] at hv; rw [if_pos (by omega)]; omega
  have outer : ∀ (j p v2 : Nat) (s1 : Pl) (w4 : Option AV), p + j = n → kG s s1 → v2 + (sla w t n x p).length = lot → Fr xs L T0 106 (d - 1) 214 4 [some (rf 73), some (it (lot : Nat)), some (it (v2 : Nat)), some (it (p : Nat)), w4] [] s1 (qv P) := by
    intro j
    induction j with
    | zero =>
      intro p v2 s1 w4 hp f hv
      have e : p = n := by omega
      subst e
      exact f214_4 ⟨fun _ => rows 4 0 v2 s1 _ (by omega) f (by omega) (by rw [if_neg (by omega)]; omega), fun z => absurd (by rw [(f.mst hm).2.2.1.2]; omega) z⟩
    | succ j ih =>
      intro p v2 s1 w4 hp f hv
      have zp : ∀ _ : Unit, zw ((p : Nat) + 1) = ((p + 1 : Nat) : Int) := fun _ => by rw [zw_id (by omega) (by omega)]; omega
      have inner : ∀ (j2 q v2 : Nat) (s2 : Pl), q + j2 = n → kG s s2 → v2 + (sla w t n x p ++ slr w t n x p q).length = lot → Fr xs L T0 106 (d - 1) 214 15 [some (rf 73), some (it (lot : Nat)), some (it (v2 : Nat)), some (it (p : Nat)), some (it (q : Nat))] [] s2 (qv P) := by
        intro j2
        induction j2 with
        | zero =>
          intro q v2 s2 hq f2 hv
          have e : q = n := by omega
          subst e
          refine f214_15 ⟨fun _ => ?_, fun z => absurd (by rw [(f2.mst hm).2.2.1.2]; omega) z⟩
          rw [zp ()]
          exact ih (p + 1) v2 s2 _ (by omega) f2 hv
        | succ j2 ih2 =>
          intro q v2 s2 hq f2 hv
          have zq : ∀ _ : Unit, zw ((q : Nat) + 1) = ((q + 1 : Nat) : Int) := fun _ => by rw [zw_id (by omega) (by omega)]; omega
          refine f214_15 ⟨fun z => absurd z (by rw [(f2.mst hm).2.2.1.2]; omega), fun _ => ?_⟩
          refine i176 (by omega) hk (f2.mst hm) (f2.mx hx) (by omega) (by omega) (fun hs s3 f3 => ⟨fun _ => ⟨fun z2 => f214_52 ?_, fun z2 => ?_⟩, fun z => absurd (by decide) z⟩) (fun hs s3 f3 => ⟨fun z => absurd rfl z, fun _ => f214_52 ?_⟩)
          · have hsB := (swB_iff w t n x p q).mpr hs
            have zv : ∀ _ : Unit, zw ((v2 : Nat) + (-1)) = ((v2 - 1 : Nat) : Int) := fun _ => by rw [zw_id (by omega) (by omega)]; omega
            rw [zq (), zv ()]
            refine ih2 (q + 1) (v2 - 1) s3 (by omega) (f2.trans f3) ?_
            simp only [slr]
            rw [if_pos hsB, ← List.append_assoc, List.length_append (bs := [(p, q)])]
            simp only [List.length_cons, List.length_nil]
            omega
          · have hsB := (swB_iff w t n x p q).mpr hs
            have hv0 : v2 = 0 := by omega
            subst hv0
            obtain ⟨r, hr⟩ := sla_here hs.1.1 hs.1.2 hsB
            have hlt : lot < (sla w t n x n).length := by rw [hr, List.length_append, List.length_cons]; omega
            have hget : (sla w t n x n).getD lot (0, 0) = (p, q) := by
              rw [hr, List.getD_eq_getElem?_getD, List.getElem?_append_right (by omega), show lot - (sla w t n x p ++ slr w t n x p q).length = 0 from by omega]
              rfl
            have ex : ltx w t n x lot = swd x p q := by unfold ltx; rw [if_pos hlt, hget]
            have eh : lth w t n x lot = 0 := by unfold lth; rw [if_pos hlt]
            rw [ex, eh] at h
            refine i177a (by omega) hn hs.1.1 hs.1.2 (fun e => ?_) ((f2.trans f3).mx hx) fun s4 g1 g2 g3 => h s4 g1 ((f2.trans f3).fLt.trans fun c i _ _ u _ => ?_) (by rw [g2 72 (by decide), (f2.trans f3) 72 44 (by decide) (by decide)]; omega)
            · have u1 := hs.2.1.1
              have u2 := hs.2.1.2
              rw [e] at u1
              omega
            · by_cases ec : c = 75
              · subst ec
                have := u rfl
                have := hs.1
                exact g3 i (by omega) (by omega)
              · rw [g2 c ec]
          · have hsB : ¬ swB w t n x p q = true := fun z => hs ((swB_iff w t n x p q).mp z)
            rw [zq ()]
            refine ih2 (q + 1) v2 s3 (by omega) (f2.trans f3) ?_
            simp only [slr]
            rw [if_neg hsB, List.append_nil]
            exact hv
      exact f214_4 ⟨fun z => absurd z (by rw [(f.mst hm).2.2.1.2]; omega), fun _ => inner n 0 v2 s1 (by omega) f (by simp only [slr, List.append_nil]; exact hv)⟩
  exact e214 (by omega) (f214_0 (outer n 0 lot s _ (by omega) (kG.refl s) (by simp [sla])))
