/-! the class's own constructor, its end; both objects stand -/
section STB
variable {xs : Nat → Int} {L d : Nat}
theorem k82 {Q : Option AV → Nat → Pl → Prop} (hd : 60 ≤ d) (h : ∀ s2, F82 s2 → Q none 72 s2) : Er xs L d 82 [rf 1] 1 (znew (fun _ _ => 0) 0) Q := by
  obtain ⟨e, rfl⟩ : ∃ e, d = e + 1 := ⟨d - 1, by omega⟩
  refine Er.of (by decide) [some (rf 1), none] rfl ?_
  have hz : ∀ c i, znew (fun _ _ => 0) 0 c i = (0 : Int) := fun c i => by rw [zng]; split <;> rfl
  refine k82a (by omega) ?_
  have v0 : ∀ c i v, pgo pl82 c i (some 0) = some v → pap (znew (fun _ _ => 0) 0) pl82 c i = v := fun c i v hv => pap_get pl82 _ (some 0) (fun w hw => by cases hw; exact hz _ _) hv
  have z0 : ∀ c, pze pl82 c false = true → pap (znew (fun _ _ => 0) 0) pl82 c = fun _ => 0 := fun c hv => pap_zero pl82 _ false (fun w => by cases w) hv
  have hs0 : Sh T1 (pap (znew (fun _ _ => 0) 0) pl82) := fun q hq => v0 _ _ _ (T1_82 q hq)
  have h531 := v0 53 1 0 (by decide +kernel)
  have h22 := z0 22 (by decide +kernel)
  generalize pap (znew (fun _ _ => 0) 0) pl82 = s0 at *
  refine l82 (s0 := s0) (by omega) (fun s1 hf hs1 => ?_) 48 0 s0 rfl (FT.zero (by rw [h531]; rfl)) hs0
  have f1 : ∀ c i, ¬ (c = 53 ∧ i = 1) → c ≠ 54 → s1 c i = s0 c i := fun c i q1 q2 => by rw [hf c i, if_neg q1, if_neg (fun w => q2 w.1)]
  have hS : tS (fun i => sch 2 i) 48 s1 := by
    refine ⟨by rw [hf 53 1, if_pos ⟨rfl, rfl⟩], by decide, fun i hi => ⟨?_, (sch_ok 2 (Or.inl rfl) i (by omega)).2⟩⟩
    rw [hf 54 _, if_neg (fun w => absurd w.1 (by decide)), if_pos ⟨rfl, by omega, by omega⟩]
    show sch 2 (((((i : Nat) : Int) - ((0 : Nat) : Int)).toNat : Nat) : Int) = sch 2 ((i : Nat) : Int)
    rw [show ((((i : Nat) : Int) - ((0 : Nat) : Int)).toNat : Nat) = i from by omega]
  have t22 : s1 (22 + 4 * 0) = fun _ => 0 := by
    show s1 22 = fun _ => 0
    rw [show s1 22 = s0 22 from funext fun i => f1 22 i (by omega) (by decide), h22]
  have e05 : s1 0 5 = ((54 : Nat) : Int) := hs1 _ t1_05
  have e03 : s1 0 3 = ((20 : Nat) : Int) := hs1 _ t1_03
  have e190 : s1 19 0 = ((22 : Nat) : Int) := hs1 _ t1_190
  refine Cr.aldn (c := 1) (by decide +kernel : zi 82 150 = some (.aload_n 0, 1)) rfl ⟨by decide, by decide⟩ ?_
  refine Cr.getR (c := 0) (c2 := 54) (ci := 7) (k := 5) 5 (by decide +kernel : zi 82 151 = some (.getfield 38, 3)) (by decide +kernel) rfl (by decide +kernel) (by decide +kernel) (by decide) rfl e05 ?_
  refine Cr.aldn (c := 1) (by decide +kernel : zi 82 154 = some (.aload_n 0, 1)) rfl ⟨by decide, by decide⟩ ?_
  refine Cr.getR (c := 0) (c2 := 20) (ci := 7) (k := 3) 3 (by decide +kernel : zi 82 155 = some (.getfield 21, 3)) (by decide +kernel) rfl (by decide +kernel) (by decide +kernel) (by decide) rfl e03 ?_
  refine Cr.iconst (by decide +kernel : zi 82 158 = some (.iconst 0, 1)) (by decide) ?_
  refine Cr.aald (c := 19) (c2 := 22) (K := 23) (N := 6) (by decide +kernel : zi 82 159 = some (.aaload, 1)) (by decide +kernel) (by decide) (by decide) (by decide) (by decide) e190 ?_
  refine Cr.callV (y2 := 18) (na := 2) (as := [rf 54, rf (21 + 4 * 0 + 1)]) (rest := []) (by decide +kernel : zi 82 160 = some (.invokevirtual 58, 3)) rfl (by decide +kernel) (by decide +kernel) rfl rfl (zok_V rfl (by decide) (by decide +kernel) (by decide +kernel) (zrecv_c (c := 53) (by decide) (by decide +kernel)) rfl (Nat.le_of_ble_eq_true rfl)) ((c18 (T := T1) (n := 57) (t := 0) (d := e) KR1 (by omega) (by decide) hS (P := fun _ s2 => (∀ c i, ¬ chF 0 c i → s2 c i = s1 c i) ∧ vX0 s2) (fun e0 e1 z s2 etx c22 c230 c231 c232 fr => ⟨fr, ?_⟩) (fun p s2 etx fr => ?_)) T1_ok hs1) (fun r n2 s3 hq => ?_)
  · rw [t22] at etx
    have ok := tx0_ok
    unfold tx0 at ok
    rw [etx] at ok
    simp only [txOK, Bool.and_eq_true, decide_eq_true_eq] at ok
    obtain ⟨⟨⟨⟨⟨⟨⟨⟨⟨⟨⟨o1, o2⟩, o3⟩, p0⟩, p1⟩, p2⟩, p3⟩, p4⟩, p5⟩, p6⟩, p7⟩, p8⟩ := ok
    have c22 : s2 22 = z.C := c22
    have c230 : s2 23 0 = ((e0 : Nat) : Int) := c230
    have c231 : s2 23 1 = ((e1 : Nat) : Int) := c231
    have c232 : s2 23 2 = ((z.l : Nat) : Int) := c232
    unfold vX0
    rw [c22, c230, c231, c232, o1, o2, o3]
    exact ⟨⟨p0, p1, p2, p3, p4, p5, p6, p7, p8⟩, rfl, rfl, rfl⟩
  · rw [t22] at etx
    have ok := tx0_ok
    unfold tx0 at ok
    rw [etx] at ok
    cases ok
  · obtain ⟨q1, hs3, w, q2, fr, hx⟩ := hq
    subst q1
    subst q2
    refine Cr.pop (v := it w) (by decide +kernel : zi 82 163 = some (.pop, 1)) rfl ?_
    refine k82b (by omega) (hs3 _ t1_00) (hs3 _ t1_03) (hs3 _ t1_05) (hs3 _ t1_190) (h _ ?_)
    have f3 : ∀ c i, g82 c i = true → s3 c i = s0 c i := fun c i hg => by
      have hg2 : ¬ (c = 53 ∧ i = 1) ∧ ¬ (c = 53 ∧ 4 ≤ i ∧ i ≤ 9) ∧ ¬ (c = 21 ∧ i = 3) ∧ c ≠ 22 ∧ c ≠ 23 ∧ c ≠ 54 ∧ c ≠ 55 ∧ c ≠ 56 := by
        simp only [g82, Bool.and_eq_true, Bool.not_eq_true', Bool.and_eq_false_iff, decide_eq_false_iff_not] at hg
        omega
      rw [fr c i (by unfold chF; omega), f1 c i (by omega) (by omega)]
    have val : ∀ c i v, g82 c i = true → v82 c i = some v → pap s3 pl82b c i = v := fun c i v hg hv => by
      unfold v82 at hv
      rw [pgo_app] at hv
      refine pap_get pl82b s3 (pgo pl82 c i (some 0)) (fun w hw => ?_) hv
      rw [f3 c i hg]
      exact v0 c i w hw
    have vs := v82_s
    have vt := v82_T
    have v9 := v82_9
    have vz := v82_z
    simp only [List.all_eq_true] at vs vt v9 vz
    have vs2 : ∀ q ∈ ([(0, 2, 0), (0, 4, 1), (0, 9, 0), (1, 0, 0), (1, 1, 0), (1, 2, 0), (68, 4, 0), (45, 0, -1), (47, 0, -1), (49, 0, -1), (51, 0, -1)] : List (Nat × Int × Int)), pap s3 pl82b q.1 q.2.1 = q.2.2 := fun q hq => by
      have := vs q hq
      simp only [Bool.and_eq_true, decide_eq_true_eq] at this
      exact val _ _ _ this.1 this.2
    refine ⟨fun q hq h7 => ?_, ⟨vs2 (0, 2, 0) (by decide), vs2 (0, 4, 1) (by decide), vs2 (0, 9, 0) (by decide), vs2 (1, 0, 0) (by decide), vs2 (1, 1, 0) (by decide), vs2 (1, 2, 0) (by decide), ?_, vs2 (68, 4, 0) (by decide)⟩, fun q hq => ⟨?_, ?_⟩, fun k hk => ?_, ?_⟩
    · have := vt q hq
      simp only [Bool.or_eq_true, Bool.not_eq_true', decide_eq_false_iff_not, Bool.and_eq_true, decide_eq_true_eq] at this
      rcases this with u | u
      · exact absurd h7 u
      · exact val _ _ _ u.1 u.2
    · exact pap_get pl82b s3 none (fun w hw => by cases hw) (by decide +kernel : pgo pl82b 53 1 none = some 0)
    · rcases (show q = 0 ∨ q = 1 ∨ q = 2 ∨ q = 3 by omega) with rfl | rfl | rfl | rfl
      · exact vs2 (45, 0, -1) (by decide)
      · exact vs2 (47, 0, -1) (by decide)
      · exact vs2 (49, 0, -1) (by decide)
      · exact vs2 (51, 0, -1) (by decide)
    · have := vz q (List.mem_range.mpr hq)
      simp only [Bool.and_eq_true] at this
      refine pap_zero pl82b s3 true (fun _ => ?_) this.1.2
      rw [show s3 (46 + 2 * q) = s0 (46 + 2 * q) from funext fun i => f3 _ i (by
        simp only [g82, Bool.and_eq_true, Bool.not_eq_true', Bool.and_eq_false_iff, decide_eq_false_iff_not]; omega)]
      exact z0 _ this.2
    · have := v9 k (List.mem_range.mpr hk)
      simp only [Bool.and_eq_true, decide_eq_true_eq] at this
      exact val _ _ _ this.1 this.2
    · unfold vX0
      rw [pap_fr (c := 22) pl82b s3 (by decide +kernel), pap_fr (c := 23) pl82b s3 (by decide +kernel)]
      exact hx
theorem v131_fr : ((List.range 72).all fun c => pl131.all fun e => decide (e.1 ≠ c)) = true := by decide +kernel
theorem v131_T : (T0.all fun e => decide (e.1 < 72) || decide (pgo pl131 e.1 e.2.1 (if e.1 = 72 then some 0 else none) = some e.2.2)) = true := by decide +kernel
theorem v131_s : (([(2, 0), (3, 0), (12, 0), (13, 1), (14, 0), (29, 0), (45, 0)] : List (Int × Int)).all fun e => decide (pgo pl131 72 e.1 (some 0) = some e.2)) = true := by decide +kernel
theorem v131_71 : ((List.range 16).all fun k => decide (pgo pl131 73 ((k : Nat) : Int) none = some (hr9.getD k 0))) = true := by decide +kernel
theorem v131_85 : ((List.range 47).all fun k => decide (pgo pl131 87 ((k : Nat) : Int) none = some (wlet.getD k 0))) = true := by decide +kernel
theorem v131_86 : ((List.range 12).all fun k => decide (pgo pl131 88 ((k : Nat) : Int) none = some (wmea.getD k 0))) = true := by decide +kernel
theorem v131_100 : ((List.range 4).all fun k => decide (pgo pl131 102 ((k : Nat) : Int) none = some (-1))) = true := by decide +kernel
theorem hr9_sym : ∀ u, u < 4 → ∀ v, v < 4 → hr9.getD (4 * u + v) 0 = hr9.getD (4 * v + u) 0 := by decide
theorem hr9_rng : ∀ k, k < 16 → 0 ≤ hr9.getD k 0 ∧ hr9.getD k 0 ≤ 9 := by decide
theorem inv_start {s2 : Pl} (h : F82 s2) : Inv (pap (znew s2 72) pl131) ∧ Sh T0 (pap (znew s2 72) pl131) := by
  obtain ⟨hT, ⟨a02, a04, a09, a10, a11, a12, a531, a664⟩, hq, h9, hX⟩ := h
  have low : ∀ c, c < 72 → pap (znew s2 72) pl131 c = s2 c := fun c hc => by
    have := v131_fr
    rw [List.all_eq_true] at this
    rw [pap_fr pl131 _ (this c (List.mem_range.mpr hc))]
    unfold znew
    rw [if_neg (by omega)]
  have z70 : ∀ i : Int, znew s2 72 72 i = 0 := fun i => by rw [zng, if_pos rfl]
  have m70 : ∀ i v, pgo pl131 72 i (some 0) = some v → pap (znew s2 72) pl131 72 i = v := fun i v hv => pap_get pl131 _ (some 0) (fun w hw => by cases hw; exact z70 i) hv
  have mm : ∀ c i v, pgo pl131 c i none = some v → pap (znew s2 72) pl131 c i = v := fun c i v hv => pap_get pl131 _ none (fun w hw => by cases hw) hv
  have w71 := v131_71
  have w85 := v131_85
  have w86 := v131_86
  have w100 := v131_100
  have wT := v131_T
  have ws := v131_s
  simp only [List.all_eq_true, decide_eq_true_eq] at w71 w85 w86 w100 ws
  rw [List.all_eq_true] at wT
  have s70 : ∀ e ∈ ([(2, 0), (3, 0), (12, 0), (13, 1), (14, 0), (29, 0), (45, 0)] : List (Int × Int)), pap (znew s2 72) pl131 72 e.1 = e.2 := fun e he => m70 _ _ (ws e he)
  have x71 : ∀ k : Nat, k < 16 → pap (znew s2 72) pl131 73 ((k : Nat) : Int) = hr9.getD k 0 := fun k hk => mm _ _ _ (w71 k (List.mem_range.mpr hk))
  have x85 : ∀ k : Nat, k < 47 → pap (znew s2 72) pl131 87 ((k : Nat) : Int) = wlet.getD k 0 := fun k hk => mm _ _ _ (w85 k (List.mem_range.mpr hk))
  have x86 : ∀ k : Nat, k < 12 → pap (znew s2 72) pl131 88 ((k : Nat) : Int) = wmea.getD k 0 := fun k hk => mm _ _ _ (w86 k (List.mem_range.mpr hk))
  have x100 : ∀ k : Nat, k < 4 → pap (znew s2 72) pl131 102 ((k : Nat) : Int) = -1 := fun k hk => mm _ _ _ (w100 k (List.mem_range.mpr hk))
  have hSh : Sh T0 (pap (znew s2 72) pl131) := fun q hq2 => by
    by_cases u : q.1 < 72
    · rw [low _ u]; exact hT q hq2 u
    · have := wT q hq2
      simp only [Bool.or_eq_true, decide_eq_true_eq] at this
      rcases this with u2 | u2
      · exact absurd u2 u
      · by_cases u3 : q.1 = 72
        · rw [if_pos u3, u3] at u2
          rw [u3]; exact m70 _ _ u2
        · rw [if_neg u3] at u2
          exact mm _ _ _ u2
  generalize pap (znew s2 72) pl131 = S at *
  refine ⟨?_, hSh⟩
  have b02 : S 0 2 = 0 := by rw [low 0 (by decide)]; exact a02
  have b04 : S 0 4 = 1 := by rw [low 0 (by decide)]; exact a04
  have b09 : S 0 9 = 0 := by rw [low 0 (by decide)]; exact a09
  have b10 : S 1 0 = 0 := by rw [low 1 (by decide)]; exact a10
  have b11 : S 1 1 = 0 := by rw [low 1 (by decide)]; exact a11
  have b12 : S 1 2 = 0 := by rw [low 1 (by decide)]; exact a12
  have b531 : S 53 1 = 0 := by rw [low 53 (by decide)]; exact a531
  have b664 : S 68 4 = 0 := by rw [low 68 (by decide)]; exact a664
  have b9 : ∀ k : Nat, k < 16 → S 9 ((k : Nat) : Int) = hr9.getD k 0 := fun k hk => by rw [low 9 (by decide)]; exact h9 k hk
  have c2 := s70 (2, 0) (by decide)
  have c3 := s70 (3, 0) (by decide)
  have c12 := s70 (12, 0) (by decide)
  have c13 := s70 (13, 1) (by decide)
  have c14 := s70 (14, 0) (by decide)
  have c29 := s70 (29, 0) (by decide)
  have c45 := s70 (45, 0) (by decide)
  dsimp only at c2 c3 c12 c13 c14 c29 c45
  have s1 : ∀ q : Nat, q < 4 → vS1 S q := fun q hq2 => by
    have e1 : S 102 ((q : Nat) : Int) = -1 := x100 q hq2
    have e2 : S (45 + 2 * q) 0 = -1 := by rw [low _ (by omega)]; exact (hq q hq2).1
    refine ⟨by rw [e1, e2], by omega, by omega, fun w => absurd e1 w⟩
  refine Inv.of0 ⟨?_, fun i h0 h1 => ?_, ⟨fun i h0 h1 => ?_, fun w => absurd b02 w, Or.inl b02, Or.inl b09⟩, fun p h0 h1 => ?_, ?_, ?_, ⟨?_, fun w => absurd b02 w⟩, ⟨s1 0 (by decide), s1 1 (by decide), s1 2 (by decide), s1 3 (by decide)⟩, ⟨?_, fun t t1 t2 => ?_⟩, ⟨x85, x86, fun u v hu hv => ?_, fun w => absurd b02 w, fun q hq2 i h0 h1 => ?_⟩, ?_, fun w => absurd b02 w⟩ b09
  · unfold vL
    rw [c2, c3, c13, c14, b10, b11, b12, b04]
    decide
  · obtain ⟨k, rfl⟩ : ∃ k : Nat, i = ((k : Nat) : Int) := ⟨i.toNat, by omega⟩
    rw [x71 k (by omega), b9 k (by omega)]
  · obtain ⟨k, rfl⟩ : ∃ k : Nat, i = ((k : Nat) : Int) := ⟨i.toNat, by omega⟩
    rw [b9 k (by omega)]
    exact hr9_rng k (by omega)
  · omega
  · unfold vM
    rw [c29, b664]
    exact ⟨rfl, by decide, by decide, fun k k0 k1 => absurd k1 (by omega)⟩
  · unfold vT
    rw [c12, b531]
    exact ⟨rfl, by decide, by decide, fun k k0 k1 => absurd k1 (by omega)⟩
  · rw [c45, b02]
  · unfold vX0
    rw [low 22 (by decide), low 23 (by decide)]
    exact hX
  · omega
  · have e1 := b9 (4 * u + v) (by omega)
    have e2 := b9 (4 * v + u) (by omega)
    rw [show ((4 * u + v : Nat) : Int) = 4 * ((u : Nat) : Int) + ((v : Nat) : Int) from by omega] at e1
    rw [show ((4 * v + u : Nat) : Int) = 4 * ((v : Nat) : Int) + ((u : Nat) : Int) from by omega] at e2
    rw [e1, e2, hr9_sym u hu v hv]
  · rw [low _ (by omega), (hq q hq2).2]
    exact ⟨show (-2147483648 : Int) ≤ 0 by decide, show (0 : Int) < 2147483648 by decide⟩
  · rw [b11]
    exact Nat.zero_le _
/-- the law, from its first place -/
theorem run240 (hx : ∀ j, zR (xs j)) (hL : L ≤ 3584) : Gr xs L 100 247 0 [some (rf 100006), none, none, none] [] 0 (fun _ _ => 0) (fun r n _ => r = some (it 1) ∧ n = 106) := by
  refine Cr.newo (n2 := 1) (ci := 7) (by decide +kernel : zi 247 0 = some (.new 7, 3)) (by decide +kernel) (by decide +kernel) (by decide) rfl ?_
  refine Cr.dup (by decide +kernel : zi 247 3 = some (.dup, 1)) rfl ?_
  refine Cr.callV (y2 := 82) (na := 1) (as := [rf 1]) (rest := [rf 1]) (by decide +kernel : zi 247 4 = some (.invokespecial 9, 3)) rfl (by decide +kernel) (by decide +kernel) rfl rfl (zok_I rfl (by decide) (by decide +kernel) (by decide +kernel) (zrecv_c (c := 0) (by decide) (by decide +kernel)) rfl (Nat.le_of_ble_eq_true rfl)) (k82 (Q := fun r n s => r = none ∧ n = 72 ∧ F82 s) (by decide) (fun s2 h => ⟨rfl, rfl, h⟩)) (fun r n2 s2 h => ?_)
  obtain ⟨rfl, rfl, hF⟩ := h
  refine Cr.astn (c := 1) (lv2 := [some (rf 100006), some (rf 1), none, none]) (by decide +kernel : zi 247 7 = some (.astore_n 1, 1)) (Nat.le_of_ble_eq_true rfl) ⟨by decide, by decide⟩ rfl ?_
  refine Cr.newo (n2 := 73) (ci := 8) (by decide +kernel : zi 247 8 = some (.new 10, 3)) (by decide +kernel) (by decide +kernel) (by decide) rfl ?_
  refine Cr.dup (by decide +kernel : zi 247 11 = some (.dup, 1)) rfl ?_
  refine Cr.callK (N := 106) (y2 := 131) (na := 1) (as := [rf 73]) (rest := [rf 73]) (by decide +kernel : zi 247 12 = some (.invokespecial 12, 3)) rfl (by decide +kernel) (by decide +kernel) rfl rfl (zok_I rfl (by decide) (by decide +kernel) (by decide +kernel) (zrecv_c (c := 72) (by decide) (by decide +kernel)) rfl (Nat.le_of_ble_eq_true rfl)) (k131_73 (by decide) ⟨rfl, rfl, rfl⟩) ?_
  obtain ⟨hI, hS⟩ := inv_start hF
  generalize pap (znew s2 72) pl131 = S at *
  refine Cr.astn (c := 73) (lv2 := [some (rf 100006), some (rf 1), some (rf 73), none]) (by decide +kernel : zi 247 15 = some (.astore_n 2, 1)) (Nat.le_of_ble_eq_true rfl) ⟨by decide, by decide⟩ rfl ?_
  refine Cr.iconst (by decide +kernel : zi 247 16 = some (.iconst 0, 1)) (by decide) ?_
  refine Cr.istn (lv2 := [some (rf 100006), some (rf 1), some (rf 73), some (it 0)]) (by decide +kernel : zi 247 17 = some (.istore_n 3, 1)) (Nat.le_of_ble_eq_true rfl) rfl ?_
  have l := l240 (xs := xs) (L := L) (d := 100) (by decide) hx hL (L + 1) 0 S (by decide) (by omega) (by omega) hI T0_ok hS
  refine l.mono fun r n2 s3 hq => ?_
  obtain ⟨q1, _, w, q2, q3⟩ := hq
  exact ⟨by rw [q2, q3], q1⟩
end STB
