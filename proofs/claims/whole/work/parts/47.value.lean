variable {xs : Nat → Int} {L : Nat} {d : Nat} {s : Pl}
def okc (c : Int) : Prop := -6 ≤ c ∨ c = -12 ∨ c = -13 ∨ isB c
theorem isB_neg {c : Int} (h : isB c) : c < -6 ∧ c ≠ -12 ∧ c ≠ -13 := by
  unfold isB at h
  omega
theorem q13a {t0 : Nat} (ht0 : t0 < 6) {v1 c x i fr : Int} {P : Int → Pl → Prop} (hd : 2 ≤ d) (hx : 0 ≤ x ∧ x < 31) (hi : 0 ≤ i ∧ i < 160) (h6 : -6 ≤ c)
    (h : Fr xs L T0 106 d 13 43 [some (rf (21 + 4 * t0 + 1)), some (it v1), some (rf 59), some (it x), some (it fr), some (it (i + 1)), some (it c)] [] (zup s (24 + 4 * t0) x (if 0 ≤ c then c else s 58 (-1 - c))) (qi P)) :
    Fr xs L T0 106 d 13 103 [some (rf (21 + 4 * t0 + 1)), some (it v1), some (rf 59), some (it x), some (it fr), some (it i), some (it c)] [] s (qi P) := by
  have e1 : zw (x + 1) = x + 1 := zw_id (by omega) (by omega)
  have e2 : zw (i + 1) = i + 1 := zw_id (by omega) (by omega)
  refine f13_103 ht0 ?_
  rw [e1]
  refine ⟨fun h1 => absurd h1 (by omega), fun _ => ⟨fun _ => ⟨fun h2 => absurd h2 (by omega), fun _ => ?_⟩, fun h2 => absurd (by omega : x + 1 < 40) h2⟩⟩
  refine i14 (by omega) h6 (fun h3 => f13_160 ht0 ht0 ⟨by omega, ?_⟩) (fun h3 => f13_160 ht0 ht0 ⟨by omega, ?_⟩)
  · rw [if_pos h3] at h
    rw [e2]
    exact h
  · rw [if_neg (by omega)] at h
    rw [e2]
    exact h
theorem q13b {t0 : Nat} (ht0 : t0 < 6) {v1 c x i fr : Int} {P : Int → Pl → Prop} (hd : 2 ≤ d) (hx : 0 ≤ x ∧ x < 31) (hi : 0 ≤ i ∧ i < 160) (h6 : c < -6) (hc : okc c)
    (h : Fr xs L T0 106 d 13 43 [some (rf (21 + 4 * t0 + 1)), some (it v1), some (rf 59), some (it x), some (it fr), some (it (i + 1)), some (it c)] [] (zup s (24 + 4 * t0) x (if c = -12 then (if s (24 + 4 * t0) x = 0 then 1 else 0) else if c = -13 then zw (-(s (24 + 4 * t0) x)) else op2 c (s (24 + 4 * t0) x) (s (24 + 4 * t0) (x + 1)))) (qi P)) :
    Fr xs L T0 106 d 13 103 [some (rf (21 + 4 * t0 + 1)), some (it v1), some (rf 59), some (it x), some (it fr), some (it i), some (it c)] [] s (qi P) := by
  have e1 : zw (x + 1) = x + 1 := zw_id (by omega) (by omega)
  have e2 : zw (i + 1) = i + 1 := zw_id (by omega) (by omega)
  refine f13_103 ht0 ?_
  rw [e1]
  refine ⟨fun h1 => absurd h1 (by omega), fun _ => ⟨fun _ => ⟨fun _ => ⟨by omega, by omega, ?_⟩, fun h2 => absurd h6 h2⟩, fun h2 => absurd (by omega : x + 1 < 40) h2⟩⟩
  refine i15 (by omega) (fun hB => f13_160 ht0 ht0 ⟨by omega, ?_⟩) (fun hB => f13_160 ht0 ht0 ⟨by omega, ?_⟩) (fun hB => f13_160 ht0 ht0 ⟨by omega, ?_⟩) (hc.elim (fun h2 => absurd h2 (by omega)) fun h2 => h2.elim (fun h3 => .inr (.inl h3)) fun h3 => h3.elim (fun h4 => .inr (.inr h4)) .inl)
  · have := isB_neg hB
    rw [if_neg this.2.1, if_neg this.2.2] at h
    rw [e2]
    exact h
  · rw [if_pos hB] at h
    rw [e2]
    exact h
  · rw [if_neg (by omega), if_pos hB] at h
    rw [e2]
    exact h
theorem sx_len {nm : Int → Int} {c : Int} {st : List Int} (hc : okc c) (h1 : c < -6 → 1 ≤ st.length) (h2 : isB c → 2 ≤ st.length) : (sx nm c st).length = if -6 ≤ c then st.length + 1 else if c = -12 ∨ c = -13 then st.length else st.length - 1 := by
  unfold sx
  by_cases a0 : 0 ≤ c
  · rw [if_pos a0, if_pos (by omega)]; rfl
  rw [if_neg a0]
  by_cases a6 : -6 ≤ c
  · rw [if_pos a6, if_pos a6]; rfl
  rw [if_neg a6, if_neg a6]
  by_cases a12 : c = -12
  · rw [if_pos a12, if_pos (Or.inl a12)]
    cases st with
    | nil => exact absurd (h1 (by omega)) (by simp)
    | cons a r => rfl
  rw [if_neg a12]
  by_cases a13 : c = -13
  · rw [if_pos a13, if_pos (Or.inr a13)]
    cases st with
    | nil => exact absurd (h1 (by omega)) (by simp)
    | cons a r => rfl
  rw [if_neg a13, if_neg (by omega)]
  have hB : isB c := hc.elim (fun h3 => absurd h3 a6) fun h3 => h3.elim (fun h4 => absurd h4 a12) fun h4 => h4.elim (fun h5 => absurd h5 a13) id
  have h3 := h2 hB
  match st, h3 with
  | b :: a :: r, _ => simp
theorem zusm (s : Pl) (k : Nat) (i v : Int) : zup s k i v k = fun b => if b = i then v else s k b := by simp [zup]
theorem zune (s : Pl) {k a : Nat} (i v : Int) (h : a ≠ k) : zup s k i v a = s a := by simp [zup, h]
theorem l13 {t0 : Nat} (ht0 : t0 < 6) (hd : 2 ≤ d) {v1 fr : Int} (hv : 0 ≤ v1 ∧ v1 < 3) {f nm : Int → Int} {e : Nat} (he : e ≤ 160) (hok : ∀ k : Nat, k < e → okc (f (k : Nat))) (s0 : Pl) : ∀ (j b : Nat) (st : List Int) (s : Pl) (x i : Int) (w5 : Option AV), b + j = e → dp f b j st.length = some 1 → st.length ≤ 31 → rep (s (24 + 4 * t0)) st → s (22 + 4 * t0) = f → s 58 = nm → s (23 + 4 * t0) v1 = (e : Nat) → (∀ c k, c ≠ 24 + 4 * t0 → s c k = s0 c k) → x = (st.length : Int) - 1 → i = (b : Nat) →
    Fr xs L T0 106 d 13 43 [some (rf (21 + 4 * t0 + 1)), some (it v1), some (rf 59), some (it x), some (it fr), some (it i), w5] [] s (qi fun r s1 => r = (exs nm f b j st).headD 0 ∧ ∀ c k, c ≠ 24 + 4 * t0 → s1 c k = s0 c k) := by
  intro j
  induction j with
  | zero =>
    intro b st s x i w5 hb hdp hl hr hf hn hs h0 hx hi
    refine f13_43 ht0 ⟨hv, fun _ => f13_167 ht0 ⟨by decide, ?_, h0⟩, fun h => absurd h (by omega)⟩
    simp only [dp, Option.some.injEq] at hdp
    match st, hdp, hr with
    | [a], _, hr => exact hr.1
  | succ j ih =>
    intro b st s x i w5 hb hdp hl hr hf hn hs h0 hx hi
    have hc : okc (f (b : Nat)) := hok b (by omega)
    have hcell : s (22 + 4 * t0) i = f (b : Nat) := by rw [hf, hi]
    have e22 : 22 + 4 * t0 ≠ 24 + 4 * t0 := by omega
    have e23 : 23 + 4 * t0 ≠ 24 + 4 * t0 := by omega
    have e56 : 58 ≠ 24 + 4 * t0 := by omega
    refine f13_43 ht0 ⟨hv, fun h => absurd h (by omega), fun _ => ⟨fun h => absurd h (by omega), fun _ => ⟨by omega, ?_⟩⟩⟩
    rw [hcell]
    have hf2 : ∀ (p q : Int), zup s (24 + 4 * t0) p q (22 + 4 * t0) = f := fun p q => by rw [zune _ _ _ e22, hf]
    have hn2 : ∀ (p q : Int), zup s (24 + 4 * t0) p q 58 = nm := fun p q => by rw [zune _ _ _ e56, hn]
    have hs2 : ∀ (p q : Int), zup s (24 + 4 * t0) p q (23 + 4 * t0) v1 = (e : Nat) := fun p q => by rw [zune _ _ _ e23, hs]
    have h02 : ∀ (p q : Int) c k, c ≠ 24 + 4 * t0 → zup s (24 + 4 * t0) p q c k = s0 c k := fun p q c k h => by rw [zune _ _ _ h, h0 c k h]
    have hsm := fun (p q : Int) => zusm s (24 + 4 * t0) p q
    by_cases h6 : -6 ≤ f (b : Nat)
    · refine ⟨fun h => absurd h6 (by omega), fun _ => ?_⟩
      simp only [dp, if_pos h6] at hdp
      by_cases h31 : st.length < 31
      · rw [if_pos h31] at hdp
        have ez : zw (x + 1) = (st.length : Nat) := by rw [zw_id (by omega) (by omega)]; omega
        rw [ez]
        refine q13a ht0 hd (by omega) (by omega) h6 ?_
        have hr2 : rep (zup s (24 + 4 * t0) (st.length : Nat) (if 0 ≤ f (b : Nat) then f (b : Nat) else s 58 (-1 - f (b : Nat))) (24 + 4 * t0)) ((if 0 ≤ f (b : Nat) then f (b : Nat) else s 58 (-1 - f (b : Nat))) :: st) := by
          rw [hsm]; exact rep_cons hr
        have hx2 : exs nm f b (j + 1) st = exs nm f (b + 1) j ((if 0 ≤ f (b : Nat) then f (b : Nat) else s 58 (-1 - f (b : Nat))) :: st) := by
          simp only [exs, sx, hn]
          by_cases h0 : 0 ≤ f (b : Nat)
          · simp only [if_pos h0]
          · simp only [if_neg h0, if_pos h6]
        rw [hx2]
        exact ih (b + 1) _ _ _ _ _ (by omega) hdp (by simp; omega) hr2 (hf2 _ _) (hn2 _ _) (hs2 _ _) (h02 _ _) (by simp) (by omega)
      · rw [if_neg h31] at hdp
        exact absurd hdp (by simp)
    · have hlt : f (b : Nat) < -6 := by omega
      refine ⟨fun _ => ?_, fun h => absurd hlt h⟩
      simp only [dp, if_neg h6] at hdp
      by_cases hu : f (b : Nat) = -12 ∨ f (b : Nat) = -13
      · rw [if_pos hu] at hdp
        by_cases h1 : 1 ≤ st.length
        · rw [if_pos h1] at hdp
          obtain ⟨a, r, rfl⟩ : ∃ a r, st = a :: r := by
            match st, h1 with
            | a :: r, _ => exact ⟨a, r, rfl⟩
          have hlen : ((a :: r).length : Int) = (r.length : Int) + 1 := by simp
          have hxr : x = (r.length : Nat) := by omega
          have ha : s (24 + 4 * t0) x = a := by rw [hxr]; exact hr.1
          have key : Fr xs L T0 106 d 13 103 [some (rf (21 + 4 * t0 + 1)), some (it v1), some (rf 59), some (it x), some (it fr), some (it i), some (it (f (b : Nat)))] [] s (qi fun r_1 s1 => r_1 = (exs nm f b (j + 1) (a :: r)).headD 0 ∧ ∀ c k, c ≠ 24 + 4 * t0 → s1 c k = s0 c k) := by
            refine q13b ht0 hd (by omega) (by omega) hlt hc ?_
            rw [ha]
            have hx2 : exs nm f b (j + 1) (a :: r) = exs nm f (b + 1) j ((if f (b : Nat) = -12 then (if a = 0 then 1 else 0) else if f (b : Nat) = -13 then zw (-a) else op2 (f (b : Nat)) a (s (24 + 4 * t0) (x + 1))) :: r) := by
              simp only [exs, sx]
              rw [if_neg (by omega), if_neg h6]
              rcases hu with h2 | h2
              · rw [if_pos h2, if_pos h2]
              · rw [if_neg (by omega), if_pos h2, if_neg (by omega), if_pos h2]
            rw [hx2]
            refine ih (b + 1) _ _ _ _ _ (by omega) hdp (by simpa using hl) ?_ (hf2 _ _) (hn2 _ _) (hs2 _ _) (h02 _ _) (by simp; omega) (by omega)
            rw [hsm, hxr]
            exact rep_cons hr.2
          exact ⟨fun _ => key, fun _ => ⟨fun _ => key, fun h3 => absurd hu (by omega)⟩⟩
        · rw [if_neg h1] at hdp
          exact absurd hdp (by simp)
      · rw [if_neg hu] at hdp
        by_cases h1 : 2 ≤ st.length
        · rw [if_pos h1] at hdp
          obtain ⟨a2, a, r, rfl⟩ : ∃ a2 a r, st = a2 :: a :: r := by
            match st, h1 with
            | a2 :: a :: r, _ => exact ⟨a2, a, r, rfl⟩
          have hlen : ((a2 :: a :: r).length : Int) = (r.length : Int) + 2 := by simp; omega
          have hlen2 : ((a :: r).length : Int) = (r.length : Int) + 1 := by simp
          have hxr : zw (x + (-1)) = (r.length : Nat) := by rw [zw_id (by omega) (by omega)]; omega
          have ha : s (24 + 4 * t0) (r.length : Nat) = a := hr.2.1
          have ha2 : s (24 + 4 * t0) ((r.length : Nat) + 1) = a2 := by rw [← hlen2]; exact hr.1
          refine ⟨fun h3 => absurd (Or.inl h3) hu, fun _ => ⟨fun h3 => absurd (Or.inr h3) hu, fun _ => ?_⟩⟩
          rw [hxr]
          refine q13b ht0 hd (by omega) (by omega) hlt hc ?_
          rw [ha, ha2]
          have hx2 : exs nm f b (j + 1) (a2 :: a :: r) = exs nm f (b + 1) j ((if f (b : Nat) = -12 then (if a = 0 then 1 else 0) else if f (b : Nat) = -13 then zw (-a) else op2 (f (b : Nat)) a a2) :: r) := by
            simp only [exs, sx]
            rw [if_neg (by omega), if_neg h6, if_neg (by omega), if_neg (by omega), if_neg (by omega), if_neg (by omega)]
          rw [hx2]
          refine ih (b + 1) _ _ _ _ _ (by omega) ?_ (by simp at hl; simp; omega) ?_ (hf2 _ _) (hn2 _ _) (hs2 _ _) (h02 _ _) (by simp) (by omega)
          · simpa using hdp
          · rw [hsm]
            exact rep_cons hr.2.2
        · rw [if_neg h1] at hdp
          exact absurd hdp (by simp)
