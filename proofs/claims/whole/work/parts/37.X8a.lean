-- 132 X8_in
theorem f132_0 {xs : Nat → Int} {L : Nat} {d : Nat} {v0 : Int} {v1 : Int} {v2 : Int} {s : Pl} {P : Int → Pl → Prop} (h : ((v0 < v1 → P 0 s) ∧ (¬ (v0 < v1) → ((v2 < v0 → P 0 s) ∧ (¬ (v2 < v0) → P 1 s))))) : Fr xs L T0 106 d 132 0 [some (it v0), some (it v1), some (it v2)] [] s (qi P) := by
  refine Fr.ildn (by decide +kernel : zi 132 0 = some (.iload_n 0, 1)) rfl ?_
  refine Fr.ildn (by decide +kernel : zi 132 1 = some (.iload_n 1, 1)) rfl ?_
  refine Fr.if2 (q := 14) (by decide +kernel : zi 132 2 = some (.if_icmp .lt 12, 3)) (by decide +kernel) (fun g9 => ?_) (fun g9 => ?_)
  · have h := h.1 g9
    refine Fr.iconst (by decide +kernel : zi 132 14 = some (.iconst 0, 1)) (by decide) ?_
    exact Fr.retZ (by decide +kernel : zi 132 15 = some (.ireturn, 1)) (by decide +kernel) (by decide) h
  · have h := h.2 g9
    refine Fr.ildn (by decide +kernel : zi 132 5 = some (.iload_n 0, 1)) rfl ?_
    refine Fr.ildn (by decide +kernel : zi 132 6 = some (.iload_n 2, 1)) rfl ?_
    refine Fr.if2 (q := 14) (by decide +kernel : zi 132 7 = some (.if_icmp .gt 7, 3)) (by decide +kernel) (fun g9 => ?_) (fun g9 => ?_)
    · have h := h.1 g9
      refine Fr.iconst (by decide +kernel : zi 132 14 = some (.iconst 0, 1)) (by decide) ?_
      exact Fr.retZ (by decide +kernel : zi 132 15 = some (.ireturn, 1)) (by decide +kernel) (by decide) h
    · have h := h.2 g9
      refine Fr.iconst (by decide +kernel : zi 132 10 = some (.iconst 1, 1)) (by decide) ?_
      refine Fr.goto (q := 15) (by decide +kernel : zi 132 11 = some (.goto 4, 3)) (by decide +kernel) ?_
      exact Fr.retZ (by decide +kernel : zi 132 15 = some (.ireturn, 1)) (by decide +kernel) (by decide) h
theorem e132 {xs : Nat → Int} {L : Nat} {d : Nat} {v0 : Int} {v1 : Int} {v2 : Int} {s : Pl} {Q : Option AV → Pl → Prop} (hd : 1 ≤ d) (k : Fr xs L T0 106 (d - 1) 132 0 [some (it v0), some (it v1), some (it v2)] [] s Q) : Ev xs L T0 106 d 132 [it v0, it v1, it v2] s Q := Ev.of (by decide) _ rfl hd k
-- 133 X8_held
theorem f133_0 {xs : Nat → Int} {L : Nat} {d : Nat} {v0 : Int} {v1 : Int} {v2 : Int} {s : Pl} {P : Int → Pl → Prop} (h : ((v1 ≤ v0 → ((v0 ≤ v2 → P v0 s) ∧ (¬ (v0 ≤ v2) → P v2 s))) ∧ (¬ (v1 ≤ v0) → P v1 s))) : Fr xs L T0 106 d 133 0 [some (it v0), some (it v1), some (it v2)] [] s (qi P) := by
  refine Fr.ildn (by decide +kernel : zi 133 0 = some (.iload_n 0, 1)) rfl ?_
  refine Fr.ildn (by decide +kernel : zi 133 1 = some (.iload_n 1, 1)) rfl ?_
  refine Fr.if2 (q := 9) (by decide +kernel : zi 133 2 = some (.if_icmp .ge 7, 3)) (by decide +kernel) (fun g9 => ?_) (fun g9 => ?_)
  · have h := h.1 g9
    refine Fr.ildn (by decide +kernel : zi 133 9 = some (.iload_n 0, 1)) rfl ?_
    refine Fr.ildn (by decide +kernel : zi 133 10 = some (.iload_n 2, 1)) rfl ?_
    refine Fr.if2 (q := 18) (by decide +kernel : zi 133 11 = some (.if_icmp .le 7, 3)) (by decide +kernel) (fun g9 => ?_) (fun g9 => ?_)
    · have h := h.1 g9
      refine Fr.ildn (by decide +kernel : zi 133 18 = some (.iload_n 0, 1)) rfl ?_
      exact Fr.retI (by decide +kernel : zi 133 19 = some (.ireturn, 1)) (by decide +kernel) h
    · have h := h.2 g9
      refine Fr.ildn (by decide +kernel : zi 133 14 = some (.iload_n 2, 1)) rfl ?_
      refine Fr.goto (q := 19) (by decide +kernel : zi 133 15 = some (.goto 4, 3)) (by decide +kernel) ?_
      exact Fr.retI (by decide +kernel : zi 133 19 = some (.ireturn, 1)) (by decide +kernel) h
  · have h := h.2 g9
    refine Fr.ildn (by decide +kernel : zi 133 5 = some (.iload_n 1, 1)) rfl ?_
    refine Fr.goto (q := 19) (by decide +kernel : zi 133 6 = some (.goto 13, 3)) (by decide +kernel) ?_
    exact Fr.retI (by decide +kernel : zi 133 19 = some (.ireturn, 1)) (by decide +kernel) h
theorem e133 {xs : Nat → Int} {L : Nat} {d : Nat} {v0 : Int} {v1 : Int} {v2 : Int} {s : Pl} {Q : Option AV → Pl → Prop} (hd : 1 ≤ d) (k : Fr xs L T0 106 (d - 1) 133 0 [some (it v0), some (it v1), some (it v2)] [] s Q) : Ev xs L T0 106 d 133 [it v0, it v1, it v2] s Q := Ev.of (by decide) _ rfl hd k
-- 134 X8_isLanding
theorem f134_0 {xs : Nat → Int} {L : Nat} {d : Nat} {v0 : Int} {s : Pl} {P : Int → Pl → Prop} (h : Ev xs L T0 106 d 132 [it v0, it 0, it 3] s (qi fun r2 s1 => ((r2 = 0 ∨ r2 = 1) ∧ P r2 s1))) : Fr xs L T0 106 d 134 0 [some (it v0)] [] s (qi P) := by
  refine Fr.ildn (by decide +kernel : zi 134 0 = some (.iload_n 0, 1)) rfl ?_
  refine Fr.iconst (by decide +kernel : zi 134 1 = some (.iconst 0, 1)) (by decide) ?_
  refine Fr.iconst (by decide +kernel : zi 134 2 = some (.iconst 3, 1)) (by decide) ?_
  refine Fr.callI (y2 := 132) (na := 3) (as := [it v0, it 0, it 3]) (rest := []) (by decide +kernel : zi 134 3 = some (.invokestatic 118, 3)) rfl (by decide +kernel) (by decide +kernel) rfl rfl (zok_S rfl (by decide) (by decide +kernel) rfl (Nat.le_of_ble_eq_true rfl)) h (fun r2 s1 h => ?_)
  exact Fr.retZ (by decide +kernel : zi 134 6 = some (.ireturn, 1)) (by decide +kernel) h.1 h.2
theorem e134 {xs : Nat → Int} {L : Nat} {d : Nat} {v0 : Int} {s : Pl} {Q : Option AV → Pl → Prop} (hd : 1 ≤ d) (k : Fr xs L T0 106 (d - 1) 134 0 [some (it v0)] [] s Q) : Ev xs L T0 106 d 134 [it v0] s Q := Ev.of (by decide) _ rfl hd k
-- 135 X8_isOne
theorem f135_0 {xs : Nat → Int} {L : Nat} {d : Nat} {v1 : Int} {s : Pl} {P : Int → Pl → Prop} (h : Ev xs L T0 106 d 132 [it v1, it 0, it (zw ((s 72 3) - 1))] s (qi fun r2 s1 => ((r2 = 0 ∨ r2 = 1) ∧ P r2 s1))) : Fr xs L T0 106 d 135 0 [some (rf 73), some (it v1)] [] s (qi P) := by
  refine Fr.ildn (by decide +kernel : zi 135 0 = some (.iload_n 1, 1)) rfl ?_
  refine Fr.iconst (by decide +kernel : zi 135 1 = some (.iconst 0, 1)) (by decide) ?_
  refine Fr.aldn (c := 73) (by decide +kernel : zi 135 2 = some (.aload_n 0, 1)) rfl ⟨by omega, by omega⟩ ?_
  refine Fr.gI (c := 72) (ci := 8) (k := 3) (t := 0) 3 (by decide +kernel : zi 135 3 = some (.getfield 122, 3)) (by decide +kernel) (by decide +kernel) (by decide +kernel) (by decide) rfl ?_
  refine Fr.iconst (by decide +kernel : zi 135 6 = some (.iconst 1, 1)) (by decide) ?_
  refine Fr.isub (by decide +kernel : zi 135 7 = some (.isub, 1)) ?_
  refine Fr.callI (y2 := 132) (na := 3) (as := [it v1, it 0, it (zw ((s 72 3) - 1))]) (rest := []) (by decide +kernel : zi 135 8 = some (.invokestatic 118, 3)) rfl (by decide +kernel) (by decide +kernel) rfl rfl (zok_S rfl (by decide) (by decide +kernel) rfl (Nat.le_of_ble_eq_true rfl)) h (fun r2 s1 h => ?_)
  exact Fr.retZ (by decide +kernel : zi 135 11 = some (.ireturn, 1)) (by decide +kernel) h.1 h.2
theorem e135 {xs : Nat → Int} {L : Nat} {d : Nat} {v1 : Int} {s : Pl} {Q : Option AV → Pl → Prop} (hd : 1 ≤ d) (k : Fr xs L T0 106 (d - 1) 135 0 [some (rf 73), some (it v1)] [] s Q) : Ev xs L T0 106 d 135 [rf 73, it v1] s Q := Ev.of (by decide) _ rfl hd k
-- 136 X8_far
theorem f136_0 {xs : Nat → Int} {L : Nat} {d : Nat} {v1 : Int} {v2 : Int} {v3 : Int} {s : Pl} {P : Int → Pl → Prop} (h : Ev xs L T0 106 d 134 [it v1] s (qi fun r2 s1 => ((r2 = 0 → P (-1) s1) ∧ (¬ (r2 = 0) → Ev xs L T0 106 d 134 [it v2] s1 (qi fun r4 s3 => ((r4 = 0 → P (-1) s3) ∧ (¬ (r4 = 0) → ((¬ v1 = v2 → Ev xs L T0 106 d 132 [it v3, it 1, it 9] s3 (qi fun r6 s5 => ((¬ r6 = 0 → (0 ≤ zw ((zw (4 * v1)) + v2) ∧ zw ((zw (4 * v1)) + v2) < 16) ∧ (0 ≤ zw ((zw (4 * v1)) + v2) ∧ zw ((zw (4 * v1)) + v2) < 16) ∧ (0 ≤ zw ((zw (4 * v2)) + v1) ∧ zw ((zw (4 * v2)) + v1) < 16) ∧ P (s5 73 (zw ((zw (4 * v1)) + v2))) (zup (zup s5 73 (zw ((zw (4 * v1)) + v2)) v3) 73 (zw ((zw (4 * v2)) + v1)) v3)) ∧ (¬ (¬ r6 = 0) → P (-2) s5)))) ∧ (¬ (¬ v1 = v2) → P (-1) s3))))))))) : Fr xs L T0 106 d 136 0 [some (rf 73), some (it v1), some (it v2), some (it v3), none] [] s (qi P) := by
  refine Fr.ildn (by decide +kernel : zi 136 0 = some (.iload_n 1, 1)) rfl ?_
  refine Fr.callI (y2 := 134) (na := 1) (as := [it v1]) (rest := []) (by decide +kernel : zi 136 1 = some (.invokestatic 125, 3)) rfl (by decide +kernel) (by decide +kernel) rfl rfl (zok_S rfl (by decide) (by decide +kernel) rfl (Nat.le_of_ble_eq_true rfl)) h (fun r2 s1 h => ?_)
  refine Fr.if0 (q := 19) (by decide +kernel : zi 136 4 = some (.ifCond .eq 15, 3)) (by decide +kernel) (fun g9 => ?_) (fun g9 => ?_)
  · have h := h.1 g9
    refine Fr.iconst (by decide +kernel : zi 136 19 = some (.iconst (-1), 1)) (by decide) ?_
    exact Fr.retI (by decide +kernel : zi 136 20 = some (.ireturn, 1)) (by decide +kernel) h
  · have h := h.2 g9
    refine Fr.ildn (by decide +kernel : zi 136 7 = some (.iload_n 2, 1)) rfl ?_
    refine Fr.callI (y2 := 134) (na := 1) (as := [it v2]) (rest := []) (by decide +kernel : zi 136 8 = some (.invokestatic 125, 3)) rfl (by decide +kernel) (by decide +kernel) rfl rfl (zok_S rfl (by decide) (by decide +kernel) rfl (Nat.le_of_ble_eq_true rfl)) h (fun r4 s3 h => ?_)
    refine Fr.if0 (q := 19) (by decide +kernel : zi 136 11 = some (.ifCond .eq 8, 3)) (by decide +kernel) (fun g9 => ?_) (fun g9 => ?_)
    · have h := h.1 g9
      refine Fr.iconst (by decide +kernel : zi 136 19 = some (.iconst (-1), 1)) (by decide) ?_
      exact Fr.retI (by decide +kernel : zi 136 20 = some (.ireturn, 1)) (by decide +kernel) h
    · have h := h.2 g9
      refine Fr.ildn (by decide +kernel : zi 136 14 = some (.iload_n 1, 1)) rfl ?_
      refine Fr.ildn (by decide +kernel : zi 136 15 = some (.iload_n 2, 1)) rfl ?_
      refine Fr.if2 (q := 21) (by decide +kernel : zi 136 16 = some (.if_icmp .ne 5, 3)) (by decide +kernel) (fun g9 => ?_) (fun g9 => ?_)
      · have h := h.1 g9
        refine Fr.ildn (by decide +kernel : zi 136 21 = some (.iload_n 3, 1)) rfl ?_
        refine Fr.iconst (by decide +kernel : zi 136 22 = some (.iconst 1, 1)) (by decide) ?_
        refine Fr.bipush (by decide +kernel : zi 136 23 = some (.bipush 9, 2)) (by decide) ?_
        refine Fr.callI (y2 := 132) (na := 3) (as := [it v3, it 1, it 9]) (rest := []) (by decide +kernel : zi 136 25 = some (.invokestatic 118, 3)) rfl (by decide +kernel) (by decide +kernel) rfl rfl (zok_S rfl (by decide) (by decide +kernel) rfl (Nat.le_of_ble_eq_true rfl)) h (fun r6 s5 h => ?_)
        refine Fr.if0 (q := 34) (by decide +kernel : zi 136 28 = some (.ifCond .ne 6, 3)) (by decide +kernel) (fun g9 => ?_) (fun g9 => ?_)
        · have h := h.1 g9
          refine Fr.aldn (c := 73) (by decide +kernel : zi 136 34 = some (.aload_n 0, 1)) rfl ⟨by omega, by omega⟩ ?_
          refine Fr.gR (c := 72) (c2 := 74) (ci := 8) (k := 1) 1 (by decide +kernel : zi 136 35 = some (.getfield 7, 3)) (by decide +kernel) (by decide +kernel) (by decide +kernel) (by decide) rfl (fun q => q (72, 1, 74) (by decide +kernel)) ?_
          refine Fr.iconst (by decide +kernel : zi 136 38 = some (.iconst 4, 1)) (by decide) ?_
          refine Fr.ildn (by decide +kernel : zi 136 39 = some (.iload_n 1, 1)) rfl ?_
          refine Fr.imul (by decide +kernel : zi 136 40 = some (.imul, 1)) ?_
          refine Fr.ildn (by decide +kernel : zi 136 41 = some (.iload_n 2, 1)) rfl ?_
          refine Fr.iadd (by decide +kernel : zi 136 42 = some (.iadd, 1)) ?_
          obtain ⟨⟨g0, g1⟩, h⟩ := h
          refine Fr.iald (c := 73) (N := 16) (by decide +kernel : zi 136 43 = some (.iaload, 1)) (by decide +kernel) (by decide) g0 g1 ?_
          refine Fr.ist (lv2 := [some (rf 73), some (it v1), some (it v2), some (it v3), some (it (s5 73 (zw ((zw (4 * v1)) + v2))))]) (by decide +kernel : zi 136 44 = some (.istore 4, 2)) (Nat.le_of_ble_eq_true rfl) rfl ?_
          refine Fr.aldn (c := 73) (by decide +kernel : zi 136 46 = some (.aload_n 0, 1)) rfl ⟨by omega, by omega⟩ ?_
          refine Fr.gR (c := 72) (c2 := 74) (ci := 8) (k := 1) 1 (by decide +kernel : zi 136 47 = some (.getfield 7, 3)) (by decide +kernel) (by decide +kernel) (by decide +kernel) (by decide) rfl (fun q => q (72, 1, 74) (by decide +kernel)) ?_
          refine Fr.iconst (by decide +kernel : zi 136 50 = some (.iconst 4, 1)) (by decide) ?_
          refine Fr.ildn (by decide +kernel : zi 136 51 = some (.iload_n 1, 1)) rfl ?_
          refine Fr.imul (by decide +kernel : zi 136 52 = some (.imul, 1)) ?_
          refine Fr.ildn (by decide +kernel : zi 136 53 = some (.iload_n 2, 1)) rfl ?_
          refine Fr.iadd (by decide +kernel : zi 136 54 = some (.iadd, 1)) ?_
          refine Fr.ildn (by decide +kernel : zi 136 55 = some (.iload_n 3, 1)) rfl ?_
          obtain ⟨⟨g0, g1⟩, h⟩ := h
          refine Fr.iast (c := 73) (N := 16) (by decide +kernel : zi 136 56 = some (.iastore, 1)) (by decide +kernel) (by decide) g0 g1 ?_
          refine Fr.aldn (c := 73) (by decide +kernel : zi 136 57 = some (.aload_n 0, 1)) rfl ⟨by omega, by omega⟩ ?_
          refine Fr.gR (c := 72) (c2 := 74) (ci := 8) (k := 1) 1 (by decide +kernel : zi 136 58 = some (.getfield 7, 3)) (by decide +kernel) (by decide +kernel) (by decide +kernel) (by decide) rfl (fun q => q (72, 1, 74) (by decide +kernel)) ?_
          refine Fr.iconst (by decide +kernel : zi 136 61 = some (.iconst 4, 1)) (by decide) ?_
          refine Fr.ildn (by decide +kernel : zi 136 62 = some (.iload_n 2, 1)) rfl ?_
          refine Fr.imul (by decide +kernel : zi 136 63 = some (.imul, 1)) ?_
          refine Fr.ildn (by decide +kernel : zi 136 64 = some (.iload_n 1, 1)) rfl ?_
          refine Fr.iadd (by decide +kernel : zi 136 65 = some (.iadd, 1)) ?_
          refine Fr.ildn (by decide +kernel : zi 136 66 = some (.iload_n 3, 1)) rfl ?_
          obtain ⟨⟨g0, g1⟩, h⟩ := h
          refine Fr.iast (c := 73) (N := 16) (by decide +kernel : zi 136 67 = some (.iastore, 1)) (by decide +kernel) (by decide) g0 g1 ?_
          refine Fr.ild (by decide +kernel : zi 136 68 = some (.iload 4, 2)) rfl ?_
          exact Fr.retI (by decide +kernel : zi 136 70 = some (.ireturn, 1)) (by decide +kernel) h
        · have h := h.2 g9
          refine Fr.bipush (by decide +kernel : zi 136 31 = some (.bipush (-2), 2)) (by decide) ?_
          exact Fr.retI (by decide +kernel : zi 136 33 = some (.ireturn, 1)) (by decide +kernel) h
      · have h := h.2 g9
        refine Fr.iconst (by decide +kernel : zi 136 19 = some (.iconst (-1), 1)) (by decide) ?_
        exact Fr.retI (by decide +kernel : zi 136 20 = some (.ireturn, 1)) (by decide +kernel) h
theorem e136 {xs : Nat → Int} {L : Nat} {d : Nat} {v1 : Int} {v2 : Int} {v3 : Int} {s : Pl} {Q : Option AV → Pl → Prop} (hd : 1 ≤ d) (k : Fr xs L T0 106 (d - 1) 136 0 [some (rf 73), some (it v1), some (it v2), some (it v3), none] [] s Q) : Ev xs L T0 106 d 136 [rf 73, it v1, it v2, it v3] s Q := Ev.of (by decide) _ rfl hd k
-- 137 X8_moor
theorem f137_0 {xs : Nat → Int} {L : Nat} {d : Nat} {v1 : Int} {s : Pl} {P : Int → Pl → Prop} (h : Ev xs L T0 106 d 134 [it v1] s (qi fun r2 s1 => ((¬ r2 = 0 → P (s1 72 2) (zup s1 72 2 v1)) ∧ (¬ (¬ r2 = 0) → P (-2) s1)))) : Fr xs L T0 106 d 137 0 [some (rf 73), some (it v1), none] [] s (qi P) := by
  refine Fr.ildn (by decide +kernel : zi 137 0 = some (.iload_n 1, 1)) rfl ?_
  refine Fr.callI (y2 := 134) (na := 1) (as := [it v1]) (rest := []) (by decide +kernel : zi 137 1 = some (.invokestatic 125, 3)) rfl (by decide +kernel) (by decide +kernel) rfl rfl (zok_S rfl (by decide) (by decide +kernel) rfl (Nat.le_of_ble_eq_true rfl)) h (fun r2 s1 h => ?_)
  refine Fr.if0 (q := 10) (by decide +kernel : zi 137 4 = some (.ifCond .ne 6, 3)) (by decide +kernel) (fun g9 => ?_) (fun g9 => ?_)
  · have h := h.1 g9
    refine Fr.aldn (c := 73) (by decide +kernel : zi 137 10 = some (.aload_n 0, 1)) rfl ⟨by omega, by omega⟩ ?_
    refine Fr.gI (c := 72) (ci := 8) (k := 2) (t := 0) 2 (by decide +kernel : zi 137 11 = some (.getfield 129, 3)) (by decide +kernel) (by decide +kernel) (by decide +kernel) (by decide) rfl ?_
    refine Fr.istn (lv2 := [some (rf 73), some (it v1), some (it (s1 72 2))]) (by decide +kernel : zi 137 14 = some (.istore_n 2, 1)) (Nat.le_of_ble_eq_true rfl) rfl ?_
    refine Fr.aldn (c := 73) (by decide +kernel : zi 137 15 = some (.aload_n 0, 1)) rfl ⟨by omega, by omega⟩ ?_
    refine Fr.ildn (by decide +kernel : zi 137 16 = some (.iload_n 1, 1)) rfl ?_
    refine Fr.pI (c := 72) (ci := 8) (k := 2) 2 (by decide +kernel : zi 137 17 = some (.putfield 129, 3)) (by decide +kernel) (by decide +kernel) (by decide +kernel) (by decide) rfl ?_
    refine Fr.ildn (by decide +kernel : zi 137 20 = some (.iload_n 2, 1)) rfl ?_
    exact Fr.retI (by decide +kernel : zi 137 21 = some (.ireturn, 1)) (by decide +kernel) h
  · have h := h.2 g9
    refine Fr.bipush (by decide +kernel : zi 137 7 = some (.bipush (-2), 2)) (by decide) ?_
    exact Fr.retI (by decide +kernel : zi 137 9 = some (.ireturn, 1)) (by decide +kernel) h
theorem e137 {xs : Nat → Int} {L : Nat} {d : Nat} {v1 : Int} {s : Pl} {Q : Option AV → Pl → Prop} (hd : 1 ≤ d) (k : Fr xs L T0 106 (d - 1) 137 0 [some (rf 73), some (it v1), none] [] s Q) : Ev xs L T0 106 d 137 [rf 73, it v1] s Q := Ev.of (by decide) _ rfl hd k
-- 138 X8_manyAt
theorem f138_0 {xs : Nat → Int} {L : Nat} {d : Nat} {v1 : Int} {s : Pl} {P : Int → Pl → Prop} (h : Fr xs L T0 106 d 138 4 [some (rf 73), some (it v1), some (it 0), some (it 0)] [] s (qi P)) : Fr xs L T0 106 d 138 0 [some (rf 73), some (it v1), none, none] [] s (qi P) := by
  refine Fr.iconst (by decide +kernel : zi 138 0 = some (.iconst 0, 1)) (by decide) ?_
  refine Fr.istn (lv2 := [some (rf 73), some (it v1), some (it 0), none]) (by decide +kernel : zi 138 1 = some (.istore_n 2, 1)) (Nat.le_of_ble_eq_true rfl) rfl ?_
  refine Fr.iconst (by decide +kernel : zi 138 2 = some (.iconst 0, 1)) (by decide) ?_
  refine Fr.istn (lv2 := [some (rf 73), some (it v1), some (it 0), some (it 0)]) (by decide +kernel : zi 138 3 = some (.istore_n 3, 1)) (Nat.le_of_ble_eq_true rfl) rfl ?_
  exact h
theorem e138 {xs : Nat → Int} {L : Nat} {d : Nat} {v1 : Int} {s : Pl} {Q : Option AV → Pl → Prop} (hd : 1 ≤ d) (k : Fr xs L T0 106 (d - 1) 138 0 [some (rf 73), some (it v1), none, none] [] s Q) : Ev xs L T0 106 d 138 [rf 73, it v1] s Q := Ev.of (by decide) _ rfl hd k
theorem f138_4 {xs : Nat → Int} {L : Nat} {d : Nat} {v1 : Int} {v2 : Int} {v3 : Int} {s : Pl} {P : Int → Pl → Prop} (h : ((s 72 3 ≤ v3 → P v2 s) ∧ (¬ (s 72 3 ≤ v3) → (0 ≤ v3 ∧ v3 < 7) ∧ ((¬ s 75 v3 = v1 → Fr xs L T0 106 d 138 28 [some (rf 73), some (it v1), some (it v2), some (it v3)] [it 0, it v2] s (qi P)) ∧ (¬ (¬ s 75 v3 = v1) → Fr xs L T0 106 d 138 28 [some (rf 73), some (it v1), some (it v2), some (it v3)] [it 1, it v2] s (qi P)))))) : Fr xs L T0 106 d 138 4 [some (rf 73), some (it v1), some (it v2), some (it v3)] [] s (qi P) := by
  refine Fr.ildn (by decide +kernel : zi 138 4 = some (.iload_n 3, 1)) rfl ?_
  refine Fr.aldn (c := 73) (by decide +kernel : zi 138 5 = some (.aload_n 0, 1)) rfl ⟨by omega, by omega⟩ ?_
  refine Fr.gI (c := 72) (ci := 8) (k := 3) (t := 0) 3 (by decide +kernel : zi 138 6 = some (.getfield 122, 3)) (by decide +kernel) (by decide +kernel) (by decide +kernel) (by decide) rfl ?_
  refine Fr.if2 (q := 36) (by decide +kernel : zi 138 9 = some (.if_icmp .ge 27, 3)) (by decide +kernel) (fun g9 => ?_) (fun g9 => ?_)
  · have h := h.1 g9
    refine Fr.ildn (by decide +kernel : zi 138 36 = some (.iload_n 2, 1)) rfl ?_
    exact Fr.retI (by decide +kernel : zi 138 37 = some (.ireturn, 1)) (by decide +kernel) h
  · have h := h.2 g9
    refine Fr.ildn (by decide +kernel : zi 138 12 = some (.iload_n 2, 1)) rfl ?_
    refine Fr.aldn (c := 73) (by decide +kernel : zi 138 13 = some (.aload_n 0, 1)) rfl ⟨by omega, by omega⟩ ?_
    refine Fr.gR (c := 72) (c2 := 76) (ci := 8) (k := 5) 5 (by decide +kernel : zi 138 14 = some (.getfield 16, 3)) (by decide +kernel) (by decide +kernel) (by decide +kernel) (by decide) rfl (fun q => q (72, 5, 76) (by decide +kernel)) ?_
    refine Fr.ildn (by decide +kernel : zi 138 17 = some (.iload_n 3, 1)) rfl ?_
    obtain ⟨⟨g0, g1⟩, h⟩ := h
    refine Fr.iald (c := 75) (N := 7) (by decide +kernel : zi 138 18 = some (.iaload, 1)) (by decide +kernel) (by decide) g0 g1 ?_
    refine Fr.ildn (by decide +kernel : zi 138 19 = some (.iload_n 1, 1)) rfl ?_
    refine Fr.if2 (q := 27) (by decide +kernel : zi 138 20 = some (.if_icmp .ne 7, 3)) (by decide +kernel) (fun g9 => ?_) (fun g9 => ?_)
    · have h := h.1 g9
      refine Fr.iconst (by decide +kernel : zi 138 27 = some (.iconst 0, 1)) (by decide) ?_
      exact h
    · have h := h.2 g9
      refine Fr.iconst (by decide +kernel : zi 138 23 = some (.iconst 1, 1)) (by decide) ?_
      refine Fr.goto (q := 28) (by decide +kernel : zi 138 24 = some (.goto 4, 3)) (by decide +kernel) ?_
      exact h
theorem f138_28 {xs : Nat → Int} {L : Nat} {d : Nat} {v1 : Int} {v2 : Int} {v3 : Int} {vs0 : Int} {vs1 : Int} {s : Pl} {P : Int → Pl → Prop} (h : Fr xs L T0 106 d 138 4 [some (rf 73), some (it v1), some (it (zw (vs1 + vs0))), some (it (zw (v3 + 1)))] [] s (qi P)) : Fr xs L T0 106 d 138 28 [some (rf 73), some (it v1), some (it v2), some (it v3)] [it vs0, it vs1] s (qi P) := by
  refine Fr.iadd (by decide +kernel : zi 138 28 = some (.iadd, 1)) ?_
  refine Fr.istn (lv2 := [some (rf 73), some (it v1), some (it (zw (vs1 + vs0))), some (it v3)]) (by decide +kernel : zi 138 29 = some (.istore_n 2, 1)) (Nat.le_of_ble_eq_true rfl) rfl ?_
  refine Fr.iinc (lv2 := [some (rf 73), some (it v1), some (it (zw (vs1 + vs0))), some (it (zw (v3 + 1)))]) (by decide +kernel : zi 138 30 = some (.iinc 3 1, 3)) (Nat.le_of_ble_eq_true rfl) rfl rfl ?_
  refine Fr.goto (q := 4) (by decide +kernel : zi 138 33 = some (.goto (-29), 3)) (by decide +kernel) ?_
  exact h
-- 139 X8_count
theorem f139_0 {xs : Nat → Int} {L : Nat} {d : Nat} {v1 : Int} {s : Pl} {P : Int → Pl → Prop} (h : ((v1 < 0 ∨ 6 < v1 → P (-2) s) ∧ (v1 = 0 → P (s 72 2) s) ∧ (v1 = 1 → P (s 72 3) s) ∧ (v1 = 2 → Ev xs L T0 106 d 138 [rf 73, it 4] s (qi fun r2 s1 => P r2 s1)) ∧ (v1 = 3 → P (s 72 29) s) ∧ (v1 = 4 → P (s 72 13) s) ∧ (v1 = 5 → P (s 72 14) s) ∧ (v1 = 6 → P (s 72 12) s))) : Fr xs L T0 106 d 139 0 [some (rf 73), some (it v1)] [] s (qi P) := by
  refine Fr.ildn (by decide +kernel : zi 139 0 = some (.iload_n 1, 1)) rfl ?_
  rcases (show (v1 < 0 ∨ 6 < v1) ∨ v1 = 0 ∨ v1 = 1 ∨ v1 = 2 ∨ v1 = 3 ∨ v1 = 4 ∨ v1 = 5 ∨ v1 = 6 by omega) with g9 | g9 | g9 | g9 | g9 | g9 | g9 | g9
  · have h := h.1 g9
    refine Fr.tsd (q := 80) (by decide +kernel : zi 139 1 = some (.tableswitch 79 0 6 #[43, 48, 53, 59, 64, 69, 74], 43)) g9 (by decide +kernel) ?_
    refine Fr.bipush (by decide +kernel : zi 139 80 = some (.bipush (-2), 2)) (by decide) ?_
    exact Fr.retI (by decide +kernel : zi 139 82 = some (.ireturn, 1)) (by decide +kernel) h
  · have h := h.2.1 g9
    refine Fr.tsw (off := 43) (q := 44) (by decide +kernel : zi 139 1 = some (.tableswitch 79 0 6 #[43, 48, 53, 59, 64, 69, 74], 43)) (by omega) (by rw [g9]; decide +kernel) (by decide +kernel) ?_
    refine Fr.aldn (c := 73) (by decide +kernel : zi 139 44 = some (.aload_n 0, 1)) rfl ⟨by omega, by omega⟩ ?_
    refine Fr.gI (c := 72) (ci := 8) (k := 2) (t := 0) 2 (by decide +kernel : zi 139 45 = some (.getfield 129, 3)) (by decide +kernel) (by decide +kernel) (by decide +kernel) (by decide) rfl ?_
    exact Fr.retI (by decide +kernel : zi 139 48 = some (.ireturn, 1)) (by decide +kernel) h
  · have h := h.2.2.1 g9
    refine Fr.tsw (off := 48) (q := 49) (by decide +kernel : zi 139 1 = some (.tableswitch 79 0 6 #[43, 48, 53, 59, 64, 69, 74], 43)) (by omega) (by rw [g9]; decide +kernel) (by decide +kernel) ?_
    refine Fr.aldn (c := 73) (by decide +kernel : zi 139 49 = some (.aload_n 0, 1)) rfl ⟨by omega, by omega⟩ ?_
    refine Fr.gI (c := 72) (ci := 8) (k := 3) (t := 0) 3 (by decide +kernel : zi 139 50 = some (.getfield 122, 3)) (by decide +kernel) (by decide +kernel) (by decide +kernel) (by decide) rfl ?_
    exact Fr.retI (by decide +kernel : zi 139 53 = some (.ireturn, 1)) (by decide +kernel) h
  · have h := h.2.2.2.1 g9
    refine Fr.tsw (off := 53) (q := 54) (by decide +kernel : zi 139 1 = some (.tableswitch 79 0 6 #[43, 48, 53, 59, 64, 69, 74], 43)) (by omega) (by rw [g9]; decide +kernel) (by decide +kernel) ?_
    refine Fr.aldn (c := 73) (by decide +kernel : zi 139 54 = some (.aload_n 0, 1)) rfl ⟨by omega, by omega⟩ ?_
    refine Fr.iconst (by decide +kernel : zi 139 55 = some (.iconst 4, 1)) (by decide) ?_
    refine Fr.callI (y2 := 138) (na := 2) (as := [rf 73, it 4]) (rest := []) (by decide +kernel : zi 139 56 = some (.invokevirtual 132, 3)) rfl (by decide +kernel) (by decide +kernel) rfl rfl (zok_V rfl (by decide) (by decide +kernel) (by decide +kernel) (zrecv_c (c := 72) (by decide) (by decide +kernel)) rfl (Nat.le_of_ble_eq_true rfl)) h (fun r2 s1 h => ?_)
    exact Fr.retI (by decide +kernel : zi 139 59 = some (.ireturn, 1)) (by decide +kernel) h
  · have h := h.2.2.2.2.1 g9
    refine Fr.tsw (off := 59) (q := 60) (by decide +kernel : zi 139 1 = some (.tableswitch 79 0 6 #[43, 48, 53, 59, 64, 69, 74], 43)) (by omega) (by rw [g9]; decide +kernel) (by decide +kernel) ?_
    refine Fr.aldn (c := 73) (by decide +kernel : zi 139 60 = some (.aload_n 0, 1)) rfl ⟨by omega, by omega⟩ ?_
    refine Fr.gI (c := 72) (ci := 8) (k := 29) (t := 0) 29 (by decide +kernel : zi 139 61 = some (.getfield 136, 3)) (by decide +kernel) (by decide +kernel) (by decide +kernel) (by decide) rfl ?_
    exact Fr.retI (by decide +kernel : zi 139 64 = some (.ireturn, 1)) (by decide +kernel) h
  · have h := h.2.2.2.2.2.1 g9
    refine Fr.tsw (off := 64) (q := 65) (by decide +kernel : zi 139 1 = some (.tableswitch 79 0 6 #[43, 48, 53, 59, 64, 69, 74], 43)) (by omega) (by rw [g9]; decide +kernel) (by decide +kernel) ?_
    refine Fr.aldn (c := 73) (by decide +kernel : zi 139 65 = some (.aload_n 0, 1)) rfl ⟨by omega, by omega⟩ ?_
    refine Fr.gI (c := 72) (ci := 8) (k := 13) (t := 0) 13 (by decide +kernel : zi 139 66 = some (.getfield 38, 3)) (by decide +kernel) (by decide +kernel) (by decide +kernel) (by decide) rfl ?_
    exact Fr.retI (by decide +kernel : zi 139 69 = some (.ireturn, 1)) (by decide +kernel) h
  · have h := h.2.2.2.2.2.2.1 g9
    refine Fr.tsw (off := 69) (q := 70) (by decide +kernel : zi 139 1 = some (.tableswitch 79 0 6 #[43, 48, 53, 59, 64, 69, 74], 43)) (by omega) (by rw [g9]; decide +kernel) (by decide +kernel) ?_
    refine Fr.aldn (c := 73) (by decide +kernel : zi 139 70 = some (.aload_n 0, 1)) rfl ⟨by omega, by omega⟩ ?_
    refine Fr.gI (c := 72) (ci := 8) (k := 14) (t := 0) 14 (by decide +kernel : zi 139 71 = some (.getfield 139, 3)) (by decide +kernel) (by decide +kernel) (by decide +kernel) (by decide) rfl ?_
    exact Fr.retI (by decide +kernel : zi 139 74 = some (.ireturn, 1)) (by decide +kernel) h
  · have h := h.2.2.2.2.2.2.2 g9
    refine Fr.tsw (off := 74) (q := 75) (by decide +kernel : zi 139 1 = some (.tableswitch 79 0 6 #[43, 48, 53, 59, 64, 69, 74], 43)) (by omega) (by rw [g9]; decide +kernel) (by decide +kernel) ?_
    refine Fr.aldn (c := 73) (by decide +kernel : zi 139 75 = some (.aload_n 0, 1)) rfl ⟨by omega, by omega⟩ ?_
    refine Fr.gI (c := 72) (ci := 8) (k := 12) (t := 0) 12 (by decide +kernel : zi 139 76 = some (.getfield 142, 3)) (by decide +kernel) (by decide +kernel) (by decide +kernel) (by decide) rfl ?_
    exact Fr.retI (by decide +kernel : zi 139 79 = some (.ireturn, 1)) (by decide +kernel) h
theorem e139 {xs : Nat → Int} {L : Nat} {d : Nat} {v1 : Int} {s : Pl} {Q : Option AV → Pl → Prop} (hd : 1 ≤ d) (k : Fr xs L T0 106 (d - 1) 139 0 [some (rf 73), some (it v1)] [] s Q) : Ev xs L T0 106 d 139 [rf 73, it v1] s Q := Ev.of (by decide) _ rfl hd k
-- 140 X8_isByte
theorem f140_0 {xs : Nat → Int} {L : Nat} {d : Nat} {v0 : Int} {s : Pl} {P : Int → Pl → Prop} (h : Ev xs L T0 106 d 132 [it v0, it 0, it 255] s (qi fun r2 s1 => ((r2 = 0 ∨ r2 = 1) ∧ P r2 s1))) : Fr xs L T0 106 d 140 0 [some (it v0)] [] s (qi P) := by
  refine Fr.ildn (by decide +kernel : zi 140 0 = some (.iload_n 0, 1)) rfl ?_
  refine Fr.iconst (by decide +kernel : zi 140 1 = some (.iconst 0, 1)) (by decide) ?_
  refine Fr.sipush (by decide +kernel : zi 140 2 = some (.sipush 255, 3)) (by decide) ?_
  refine Fr.callI (y2 := 132) (na := 3) (as := [it v0, it 0, it 255]) (rest := []) (by decide +kernel : zi 140 5 = some (.invokestatic 118, 3)) rfl (by decide +kernel) (by decide +kernel) rfl rfl (zok_S rfl (by decide) (by decide +kernel) rfl (Nat.le_of_ble_eq_true rfl)) h (fun r2 s1 h => ?_)
  exact Fr.retZ (by decide +kernel : zi 140 8 = some (.ireturn, 1)) (by decide +kernel) h.1 h.2
theorem e140 {xs : Nat → Int} {L : Nat} {d : Nat} {v0 : Int} {s : Pl} {Q : Option AV → Pl → Prop} (hd : 1 ≤ d) (k : Fr xs L T0 106 (d - 1) 140 0 [some (it v0)] [] s Q) : Ev xs L T0 106 d 140 [it v0] s Q := Ev.of (by decide) _ rfl hd k
-- 141 X8_adds
theorem f141_0 {xs : Nat → Int} {L : Nat} {d : Nat} {v1 : Int} {s : Pl} {P : Pl → Prop} (h : (0 ≤ s 72 12 ∧ s 72 12 < 160) ∧ P (zup (zup s 81 (s 72 12) (zb8 (zb8 v1))) 72 12 (zw (((zup s 81 (s 72 12) (zb8 (zb8 v1))) 72 12) + 1)))) : Fr xs L T0 106 d 141 0 [some (rf 73), some (it v1)] [] s (qv P) := by
  refine Fr.aldn (c := 73) (by decide +kernel : zi 141 0 = some (.aload_n 0, 1)) rfl ⟨by omega, by omega⟩ ?_
  refine Fr.gR (c := 72) (c2 := 82) (ci := 8) (k := 11) 11 (by decide +kernel : zi 141 1 = some (.getfield 34, 3)) (by decide +kernel) (by decide +kernel) (by decide +kernel) (by decide) rfl (fun q => q (72, 11, 82) (by decide +kernel)) ?_
  refine Fr.aldn (c := 73) (by decide +kernel : zi 141 4 = some (.aload_n 0, 1)) rfl ⟨by omega, by omega⟩ ?_
  refine Fr.gI (c := 72) (ci := 8) (k := 12) (t := 0) 12 (by decide +kernel : zi 141 5 = some (.getfield 142, 3)) (by decide +kernel) (by decide +kernel) (by decide +kernel) (by decide) rfl ?_
  refine Fr.ildn (by decide +kernel : zi 141 8 = some (.iload_n 1, 1)) rfl ?_
  refine Fr.i2b (by decide +kernel : zi 141 9 = some (.i2b, 1)) ?_
  obtain ⟨⟨g0, g1⟩, h⟩ := h
  refine Fr.bast (c := 81) (N := 160) (by decide +kernel : zi 141 10 = some (.bastore, 1)) (by decide +kernel) (by decide) g0 g1 ?_
  refine Fr.aldn (c := 73) (by decide +kernel : zi 141 11 = some (.aload_n 0, 1)) rfl ⟨by omega, by omega⟩ ?_
  refine Fr.dup (by decide +kernel : zi 141 12 = some (.dup, 1)) rfl ?_
  refine Fr.gI (c := 72) (ci := 8) (k := 12) (t := 0) 12 (by decide +kernel : zi 141 13 = some (.getfield 142, 3)) (by decide +kernel) (by decide +kernel) (by decide +kernel) (by decide) rfl ?_
  refine Fr.iconst (by decide +kernel : zi 141 16 = some (.iconst 1, 1)) (by decide) ?_
  refine Fr.iadd (by decide +kernel : zi 141 17 = some (.iadd, 1)) ?_
  refine Fr.pI (c := 72) (ci := 8) (k := 12) 12 (by decide +kernel : zi 141 18 = some (.putfield 142, 3)) (by decide +kernel) (by decide +kernel) (by decide +kernel) (by decide) rfl ?_
  exact Fr.retV (by decide +kernel : zi 141 21 = some (.return_, 1)) (by decide +kernel) h
theorem e141 {xs : Nat → Int} {L : Nat} {d : Nat} {v1 : Int} {s : Pl} {Q : Option AV → Pl → Prop} (hd : 1 ≤ d) (k : Fr xs L T0 106 (d - 1) 141 0 [some (rf 73), some (it v1)] [] s Q) : Ev xs L T0 106 d 141 [rf 73, it v1] s Q := Ev.of (by decide) _ rfl hd k
-- 142 X8_feed
theorem f142_0 {xs : Nat → Int} {L : Nat} {d : Nat} {v1 : Int} {v2 : Int} {v3 : Int} {v4 : Int} {v5 : Int} {v6 : Int} {s : Pl} {P : Int → Pl → Prop} (h : Ev xs L T0 106 d 132 [it v1, it 1, it 5] s (qi fun r2 s1 => ((r2 = 0 → P (-2) s1) ∧ (¬ (r2 = 0) → Ev xs L T0 106 d 140 [it v2] s1 (qi fun r4 s3 => ((r4 = 0 → P (-2) s3) ∧ (¬ (r4 = 0) → Ev xs L T0 106 d 140 [it v3] s3 (qi fun r6 s5 => ((r6 = 0 → P (-2) s5) ∧ (¬ (r6 = 0) → Ev xs L T0 106 d 140 [it v4] s5 (qi fun r8 s7 => ((r8 = 0 → P (-2) s7) ∧ (¬ (r8 = 0) → Ev xs L T0 106 d 140 [it v5] s7 (qi fun r10 s9 => ((r10 = 0 → P (-2) s9) ∧ (¬ (r10 = 0) → Ev xs L T0 106 d 140 [it v6] s9 (qi fun r12 s11 => ((¬ r12 = 0 → ((zw ((s11 72 12) + v1) ≤ 160 → Ev xs L T0 106 d 141 [rf 73, it v2] s11 (qv fun s13 => ((v1 ≤ 1 → Fr xs L T0 106 d 142 80 [some (rf 73), some (it v1), some (it v2), some (it v3), some (it v4), some (it v5), some (it v6)] [] s13 (qi P)) ∧ (¬ (v1 ≤ 1) → Ev xs L T0 106 d 141 [rf 73, it v3] s13 (qv fun s14 => Fr xs L T0 106 d 142 80 [some (rf 73), some (it v1), some (it v2), some (it v3), some (it v4), some (it v5), some (it v6)] [] s14 (qi P)))))) ∧ (¬ (zw ((s11 72 12) + v1) ≤ 160) → P (-4) s11))) ∧ (¬ (¬ r12 = 0) → P (-2) s11))))))))))))))))))) : Fr xs L T0 106 d 142 0 [some (rf 73), some (it v1), some (it v2), some (it v3), some (it v4), some (it v5), some (it v6)] [] s (qi P) := by
  refine Fr.ildn (by decide +kernel : zi 142 0 = some (.iload_n 1, 1)) rfl ?_
  refine Fr.iconst (by decide +kernel : zi 142 1 = some (.iconst 1, 1)) (by decide) ?_
  refine Fr.iconst (by decide +kernel : zi 142 2 = some (.iconst 5, 1)) (by decide) ?_
  refine Fr.callI (y2 := 132) (na := 3) (as := [it v1, it 1, it 5]) (rest := []) (by decide +kernel : zi 142 3 = some (.invokestatic 118, 3)) rfl (by decide +kernel) (by decide +kernel) rfl rfl (zok_S rfl (by decide) (by decide +kernel) rfl (Nat.le_of_ble_eq_true rfl)) h (fun r2 s1 h => ?_)
  refine Fr.if0 (q := 47) (by decide +kernel : zi 142 6 = some (.ifCond .eq 41, 3)) (by decide +kernel) (fun g9 => ?_) (fun g9 => ?_)
  · have h := h.1 g9
    refine Fr.bipush (by decide +kernel : zi 142 47 = some (.bipush (-2), 2)) (by decide) ?_
    exact Fr.retI (by decide +kernel : zi 142 49 = some (.ireturn, 1)) (by decide +kernel) h
  · have h := h.2 g9
    refine Fr.ildn (by decide +kernel : zi 142 9 = some (.iload_n 2, 1)) rfl ?_
    refine Fr.callI (y2 := 140) (na := 1) (as := [it v2]) (rest := []) (by decide +kernel : zi 142 10 = some (.invokestatic 145, 3)) rfl (by decide +kernel) (by decide +kernel) rfl rfl (zok_S rfl (by decide) (by decide +kernel) rfl (Nat.le_of_ble_eq_true rfl)) h (fun r4 s3 h => ?_)
    refine Fr.if0 (q := 47) (by decide +kernel : zi 142 13 = some (.ifCond .eq 34, 3)) (by decide +kernel) (fun g9 => ?_) (fun g9 => ?_)
    · have h := h.1 g9
      refine Fr.bipush (by decide +kernel : zi 142 47 = some (.bipush (-2), 2)) (by decide) ?_
      exact Fr.retI (by decide +kernel : zi 142 49 = some (.ireturn, 1)) (by decide +kernel) h
    · have h := h.2 g9
      refine Fr.ildn (by decide +kernel : zi 142 16 = some (.iload_n 3, 1)) rfl ?_
      refine Fr.callI (y2 := 140) (na := 1) (as := [it v3]) (rest := []) (by decide +kernel : zi 142 17 = some (.invokestatic 145, 3)) rfl (by decide +kernel) (by decide +kernel) rfl rfl (zok_S rfl (by decide) (by decide +kernel) rfl (Nat.le_of_ble_eq_true rfl)) h (fun r6 s5 h => ?_)
      refine Fr.if0 (q := 47) (by decide +kernel : zi 142 20 = some (.ifCond .eq 27, 3)) (by decide +kernel) (fun g9 => ?_) (fun g9 => ?_)
      · have h := h.1 g9
        refine Fr.bipush (by decide +kernel : zi 142 47 = some (.bipush (-2), 2)) (by decide) ?_
        exact Fr.retI (by decide +kernel : zi 142 49 = some (.ireturn, 1)) (by decide +kernel) h
      · have h := h.2 g9
        refine Fr.ild (by decide +kernel : zi 142 23 = some (.iload 4, 2)) rfl ?_
        refine Fr.callI (y2 := 140) (na := 1) (as := [it v4]) (rest := []) (by decide +kernel : zi 142 25 = some (.invokestatic 145, 3)) rfl (by decide +kernel) (by decide +kernel) rfl rfl (zok_S rfl (by decide) (by decide +kernel) rfl (Nat.le_of_ble_eq_true rfl)) h (fun r8 s7 h => ?_)
        refine Fr.if0 (q := 47) (by decide +kernel : zi 142 28 = some (.ifCond .eq 19, 3)) (by decide +kernel) (fun g9 => ?_) (fun g9 => ?_)
        · have h := h.1 g9
          refine Fr.bipush (by decide +kernel : zi 142 47 = some (.bipush (-2), 2)) (by decide) ?_
          exact Fr.retI (by decide +kernel : zi 142 49 = some (.ireturn, 1)) (by decide +kernel) h
        · have h := h.2 g9
          refine Fr.ild (by decide +kernel : zi 142 31 = some (.iload 5, 2)) rfl ?_
          refine Fr.callI (y2 := 140) (na := 1) (as := [it v5]) (rest := []) (by decide +kernel : zi 142 33 = some (.invokestatic 145, 3)) rfl (by decide +kernel) (by decide +kernel) rfl rfl (zok_S rfl (by decide) (by decide +kernel) rfl (Nat.le_of_ble_eq_true rfl)) h (fun r10 s9 h => ?_)
          refine Fr.if0 (q := 47) (by decide +kernel : zi 142 36 = some (.ifCond .eq 11, 3)) (by decide +kernel) (fun g9 => ?_) (fun g9 => ?_)
          · have h := h.1 g9
            refine Fr.bipush (by decide +kernel : zi 142 47 = some (.bipush (-2), 2)) (by decide) ?_
            exact Fr.retI (by decide +kernel : zi 142 49 = some (.ireturn, 1)) (by decide +kernel) h
          · have h := h.2 g9
            refine Fr.ild (by decide +kernel : zi 142 39 = some (.iload 6, 2)) rfl ?_
            refine Fr.callI (y2 := 140) (na := 1) (as := [it v6]) (rest := []) (by decide +kernel : zi 142 41 = some (.invokestatic 145, 3)) rfl (by decide +kernel) (by decide +kernel) rfl rfl (zok_S rfl (by decide) (by decide +kernel) rfl (Nat.le_of_ble_eq_true rfl)) h (fun r12 s11 h => ?_)
            refine Fr.if0 (q := 50) (by decide +kernel : zi 142 44 = some (.ifCond .ne 6, 3)) (by decide +kernel) (fun g9 => ?_) (fun g9 => ?_)
            · have h := h.1 g9
              refine Fr.aldn (c := 73) (by decide +kernel : zi 142 50 = some (.aload_n 0, 1)) rfl ⟨by omega, by omega⟩ ?_
              refine Fr.gI (c := 72) (ci := 8) (k := 12) (t := 0) 12 (by decide +kernel : zi 142 51 = some (.getfield 142, 3)) (by decide +kernel) (by decide +kernel) (by decide +kernel) (by decide) rfl ?_
              refine Fr.ildn (by decide +kernel : zi 142 54 = some (.iload_n 1, 1)) rfl ?_
              refine Fr.iadd (by decide +kernel : zi 142 55 = some (.iadd, 1)) ?_
              refine Fr.sipush (by decide +kernel : zi 142 56 = some (.sipush 160, 3)) (by decide) ?_
              refine Fr.if2 (q := 65) (by decide +kernel : zi 142 59 = some (.if_icmp .le 6, 3)) (by decide +kernel) (fun g9 => ?_) (fun g9 => ?_)
              · have h := h.1 g9
                refine Fr.aldn (c := 73) (by decide +kernel : zi 142 65 = some (.aload_n 0, 1)) rfl ⟨by omega, by omega⟩ ?_
                refine Fr.ildn (by decide +kernel : zi 142 66 = some (.iload_n 2, 1)) rfl ?_
                refine Fr.callV (y2 := 141) (na := 2) (as := [rf 73, it v2]) (rest := []) (by decide +kernel : zi 142 67 = some (.invokevirtual 148, 3)) rfl (by decide +kernel) (by decide +kernel) rfl rfl (zok_V rfl (by decide) (by decide +kernel) (by decide +kernel) (zrecv_c (c := 72) (by decide) (by decide +kernel)) rfl (Nat.le_of_ble_eq_true rfl)) h (fun s13 h => ?_)
                refine Fr.ildn (by decide +kernel : zi 142 70 = some (.iload_n 1, 1)) rfl ?_
                refine Fr.iconst (by decide +kernel : zi 142 71 = some (.iconst 1, 1)) (by decide) ?_
                refine Fr.if2 (q := 80) (by decide +kernel : zi 142 72 = some (.if_icmp .le 8, 3)) (by decide +kernel) (fun g9 => ?_) (fun g9 => ?_)
                · have h := h.1 g9
                  exact h
                · have h := h.2 g9
                  refine Fr.aldn (c := 73) (by decide +kernel : zi 142 75 = some (.aload_n 0, 1)) rfl ⟨by omega, by omega⟩ ?_
                  refine Fr.ildn (by decide +kernel : zi 142 76 = some (.iload_n 3, 1)) rfl ?_
                  refine Fr.callV (y2 := 141) (na := 2) (as := [rf 73, it v3]) (rest := []) (by decide +kernel : zi 142 77 = some (.invokevirtual 148, 3)) rfl (by decide +kernel) (by decide +kernel) rfl rfl (zok_V rfl (by decide) (by decide +kernel) (by decide +kernel) (zrecv_c (c := 72) (by decide) (by decide +kernel)) rfl (Nat.le_of_ble_eq_true rfl)) h (fun s14 h => ?_)
                  exact h
              · have h := h.2 g9
                refine Fr.bipush (by decide +kernel : zi 142 62 = some (.bipush (-4), 2)) (by decide) ?_
                exact Fr.retI (by decide +kernel : zi 142 64 = some (.ireturn, 1)) (by decide +kernel) h
            · have h := h.2 g9
              refine Fr.bipush (by decide +kernel : zi 142 47 = some (.bipush (-2), 2)) (by decide) ?_
              exact Fr.retI (by decide +kernel : zi 142 49 = some (.ireturn, 1)) (by decide +kernel) h
theorem e142 {xs : Nat → Int} {L : Nat} {d : Nat} {v1 : Int} {v2 : Int} {v3 : Int} {v4 : Int} {v5 : Int} {v6 : Int} {s : Pl} {Q : Option AV → Pl → Prop} (hd : 1 ≤ d) (k : Fr xs L T0 106 (d - 1) 142 0 [some (rf 73), some (it v1), some (it v2), some (it v3), some (it v4), some (it v5), some (it v6)] [] s Q) : Ev xs L T0 106 d 142 [rf 73, it v1, it v2, it v3, it v4, it v5, it v6] s Q := Ev.of (by decide) _ rfl hd k
theorem f142_80 {xs : Nat → Int} {L : Nat} {d : Nat} {v1 : Int} {v2 : Int} {v3 : Int} {v4 : Int} {v5 : Int} {v6 : Int} {s : Pl} {P : Int → Pl → Prop} (h : ((v1 ≤ 2 → Fr xs L T0 106 d 142 91 [some (rf 73), some (it v1), some (it v2), some (it v3), some (it v4), some (it v5), some (it v6)] [] s (qi P)) ∧ (¬ (v1 ≤ 2) → Ev xs L T0 106 d 141 [rf 73, it v4] s (qv fun s1 => Fr xs L T0 106 d 142 91 [some (rf 73), some (it v1), some (it v2), some (it v3), some (it v4), some (it v5), some (it v6)] [] s1 (qi P))))) : Fr xs L T0 106 d 142 80 [some (rf 73), some (it v1), some (it v2), some (it v3), some (it v4), some (it v5), some (it v6)] [] s (qi P) := by
  refine Fr.ildn (by decide +kernel : zi 142 80 = some (.iload_n 1, 1)) rfl ?_
  refine Fr.iconst (by decide +kernel : zi 142 81 = some (.iconst 2, 1)) (by decide) ?_
  refine Fr.if2 (q := 91) (by decide +kernel : zi 142 82 = some (.if_icmp .le 9, 3)) (by decide +kernel) (fun g9 => ?_) (fun g9 => ?_)
  · have h := h.1 g9
    exact h
  · have h := h.2 g9
    refine Fr.aldn (c := 73) (by decide +kernel : zi 142 85 = some (.aload_n 0, 1)) rfl ⟨by omega, by omega⟩ ?_
    refine Fr.ild (by decide +kernel : zi 142 86 = some (.iload 4, 2)) rfl ?_
    refine Fr.callV (y2 := 141) (na := 2) (as := [rf 73, it v4]) (rest := []) (by decide +kernel : zi 142 88 = some (.invokevirtual 148, 3)) rfl (by decide +kernel) (by decide +kernel) rfl rfl (zok_V rfl (by decide) (by decide +kernel) (by decide +kernel) (zrecv_c (c := 72) (by decide) (by decide +kernel)) rfl (Nat.le_of_ble_eq_true rfl)) h (fun s1 h => ?_)
    exact h
theorem f142_91 {xs : Nat → Int} {L : Nat} {d : Nat} {v1 : Int} {v2 : Int} {v3 : Int} {v4 : Int} {v5 : Int} {v6 : Int} {s : Pl} {P : Int → Pl → Prop} (h : ((v1 ≤ 3 → Fr xs L T0 106 d 142 102 [some (rf 73), some (it v1), some (it v2), some (it v3), some (it v4), some (it v5), some (it v6)] [] s (qi P)) ∧ (¬ (v1 ≤ 3) → Ev xs L T0 106 d 141 [rf 73, it v5] s (qv fun s1 => Fr xs L T0 106 d 142 102 [some (rf 73), some (it v1), some (it v2), some (it v3), some (it v4), some (it v5), some (it v6)] [] s1 (qi P))))) : Fr xs L T0 106 d 142 91 [some (rf 73), some (it v1), some (it v2), some (it v3), some (it v4), some (it v5), some (it v6)] [] s (qi P) := by
  refine Fr.ildn (by decide +kernel : zi 142 91 = some (.iload_n 1, 1)) rfl ?_
  refine Fr.iconst (by decide +kernel : zi 142 92 = some (.iconst 3, 1)) (by decide) ?_
  refine Fr.if2 (q := 102) (by decide +kernel : zi 142 93 = some (.if_icmp .le 9, 3)) (by decide +kernel) (fun g9 => ?_) (fun g9 => ?_)
  · have h := h.1 g9
    exact h
  · have h := h.2 g9
    refine Fr.aldn (c := 73) (by decide +kernel : zi 142 96 = some (.aload_n 0, 1)) rfl ⟨by omega, by omega⟩ ?_
    refine Fr.ild (by decide +kernel : zi 142 97 = some (.iload 5, 2)) rfl ?_
    refine Fr.callV (y2 := 141) (na := 2) (as := [rf 73, it v5]) (rest := []) (by decide +kernel : zi 142 99 = some (.invokevirtual 148, 3)) rfl (by decide +kernel) (by decide +kernel) rfl rfl (zok_V rfl (by decide) (by decide +kernel) (by decide +kernel) (zrecv_c (c := 72) (by decide) (by decide +kernel)) rfl (Nat.le_of_ble_eq_true rfl)) h (fun s1 h => ?_)
    exact h
theorem f142_102 {xs : Nat → Int} {L : Nat} {d : Nat} {v1 : Int} {v2 : Int} {v3 : Int} {v4 : Int} {v5 : Int} {v6 : Int} {s : Pl} {P : Int → Pl → Prop} (h : ((v1 ≤ 4 → Fr xs L T0 106 d 142 113 [some (rf 73), some (it v1), some (it v2), some (it v3), some (it v4), some (it v5), some (it v6)] [] s (qi P)) ∧ (¬ (v1 ≤ 4) → Ev xs L T0 106 d 141 [rf 73, it v6] s (qv fun s1 => Fr xs L T0 106 d 142 113 [some (rf 73), some (it v1), some (it v2), some (it v3), some (it v4), some (it v5), some (it v6)] [] s1 (qi P))))) : Fr xs L T0 106 d 142 102 [some (rf 73), some (it v1), some (it v2), some (it v3), some (it v4), some (it v5), some (it v6)] [] s (qi P) := by
  refine Fr.ildn (by decide +kernel : zi 142 102 = some (.iload_n 1, 1)) rfl ?_
  refine Fr.iconst (by decide +kernel : zi 142 103 = some (.iconst 4, 1)) (by decide) ?_
  refine Fr.if2 (q := 113) (by decide +kernel : zi 142 104 = some (.if_icmp .le 9, 3)) (by decide +kernel) (fun g9 => ?_) (fun g9 => ?_)
  · have h := h.1 g9
    exact h
  · have h := h.2 g9
    refine Fr.aldn (c := 73) (by decide +kernel : zi 142 107 = some (.aload_n 0, 1)) rfl ⟨by omega, by omega⟩ ?_
    refine Fr.ild (by decide +kernel : zi 142 108 = some (.iload 6, 2)) rfl ?_
    refine Fr.callV (y2 := 141) (na := 2) (as := [rf 73, it v6]) (rest := []) (by decide +kernel : zi 142 110 = some (.invokevirtual 148, 3)) rfl (by decide +kernel) (by decide +kernel) rfl rfl (zok_V rfl (by decide) (by decide +kernel) (by decide +kernel) (zrecv_c (c := 72) (by decide) (by decide +kernel)) rfl (Nat.le_of_ble_eq_true rfl)) h (fun s1 h => ?_)
    exact h
theorem f142_113 {xs : Nat → Int} {L : Nat} {d : Nat} {v1 : Int} {v2 : Int} {v3 : Int} {v4 : Int} {v5 : Int} {v6 : Int} {s : Pl} {P : Int → Pl → Prop} (h : P (s 72 12) s) : Fr xs L T0 106 d 142 113 [some (rf 73), some (it v1), some (it v2), some (it v3), some (it v4), some (it v5), some (it v6)] [] s (qi P) := by
  refine Fr.aldn (c := 73) (by decide +kernel : zi 142 113 = some (.aload_n 0, 1)) rfl ⟨by omega, by omega⟩ ?_
  refine Fr.gI (c := 72) (ci := 8) (k := 12) (t := 0) 12 (by decide +kernel : zi 142 114 = some (.getfield 142, 3)) (by decide +kernel) (by decide +kernel) (by decide +kernel) (by decide) rfl ?_
  exact Fr.retI (by decide +kernel : zi 142 117 = some (.ireturn, 1)) (by decide +kernel) h
-- 143 X8_isLetter
theorem f143_0 {xs : Nat → Int} {L : Nat} {d : Nat} {v0 : Int} {s : Pl} {P : Int → Pl → Prop} (h : Ev xs L T0 106 d 132 [it v0, it 97, it 122] s (qi fun r2 s1 => ((r2 = 0 ∨ r2 = 1) ∧ P r2 s1))) : Fr xs L T0 106 d 143 0 [some (it v0)] [] s (qi P) := by
  refine Fr.ildn (by decide +kernel : zi 143 0 = some (.iload_n 0, 1)) rfl ?_
  refine Fr.bipush (by decide +kernel : zi 143 1 = some (.bipush 97, 2)) (by decide) ?_
  refine Fr.bipush (by decide +kernel : zi 143 3 = some (.bipush 122, 2)) (by decide) ?_
  refine Fr.callI (y2 := 132) (na := 3) (as := [it v0, it 97, it 122]) (rest := []) (by decide +kernel : zi 143 5 = some (.invokestatic 118, 3)) rfl (by decide +kernel) (by decide +kernel) rfl rfl (zok_S rfl (by decide) (by decide +kernel) rfl (Nat.le_of_ble_eq_true rfl)) h (fun r2 s1 h => ?_)
  exact Fr.retZ (by decide +kernel : zi 143 8 = some (.ireturn, 1)) (by decide +kernel) h.1 h.2
theorem e143 {xs : Nat → Int} {L : Nat} {d : Nat} {v0 : Int} {s : Pl} {Q : Option AV → Pl → Prop} (hd : 1 ≤ d) (k : Fr xs L T0 106 (d - 1) 143 0 [some (it v0)] [] s Q) : Ev xs L T0 106 d 143 [it v0] s Q := Ev.of (by decide) _ rfl hd k
-- 144 X8_isDigit
theorem f144_0 {xs : Nat → Int} {L : Nat} {d : Nat} {v0 : Int} {s : Pl} {P : Int → Pl → Prop} (h : Ev xs L T0 106 d 132 [it v0, it 48, it 57] s (qi fun r2 s1 => ((r2 = 0 ∨ r2 = 1) ∧ P r2 s1))) : Fr xs L T0 106 d 144 0 [some (it v0)] [] s (qi P) := by
  refine Fr.ildn (by decide +kernel : zi 144 0 = some (.iload_n 0, 1)) rfl ?_
  refine Fr.bipush (by decide +kernel : zi 144 1 = some (.bipush 48, 2)) (by decide) ?_
  refine Fr.bipush (by decide +kernel : zi 144 3 = some (.bipush 57, 2)) (by decide) ?_
  refine Fr.callI (y2 := 132) (na := 3) (as := [it v0, it 48, it 57]) (rest := []) (by decide +kernel : zi 144 5 = some (.invokestatic 118, 3)) rfl (by decide +kernel) (by decide +kernel) rfl rfl (zok_S rfl (by decide) (by decide +kernel) rfl (Nat.le_of_ble_eq_true rfl)) h (fun r2 s1 h => ?_)
  exact Fr.retZ (by decide +kernel : zi 144 8 = some (.ireturn, 1)) (by decide +kernel) h.1 h.2
theorem e144 {xs : Nat → Int} {L : Nat} {d : Nat} {v0 : Int} {s : Pl} {Q : Option AV → Pl → Prop} (hd : 1 ≤ d) (k : Fr xs L T0 106 (d - 1) 144 0 [some (it v0)] [] s Q) : Ev xs L T0 106 d 144 [it v0] s Q := Ev.of (by decide) _ rfl hd k
-- 145 X8_wordNow
theorem f145_0 {xs : Nat → Int} {L : Nat} {d : Nat}  {s : Pl} {P : Int → Pl → Prop} (h : Fr xs L T0 106 d 145 4 [some (rf 73), some (it 0), some (it 0), none, none] [] s (qi P)) : Fr xs L T0 106 d 145 0 [some (rf 73), none, none, none, none] [] s (qi P) := by
  refine Fr.iconst (by decide +kernel : zi 145 0 = some (.iconst 0, 1)) (by decide) ?_
  refine Fr.istn (lv2 := [some (rf 73), some (it 0), none, none, none]) (by decide +kernel : zi 145 1 = some (.istore_n 1, 1)) (Nat.le_of_ble_eq_true rfl) rfl ?_
  refine Fr.iconst (by decide +kernel : zi 145 2 = some (.iconst 0, 1)) (by decide) ?_
  refine Fr.istn (lv2 := [some (rf 73), some (it 0), some (it 0), none, none]) (by decide +kernel : zi 145 3 = some (.istore_n 2, 1)) (Nat.le_of_ble_eq_true rfl) rfl ?_
  exact h
theorem e145 {xs : Nat → Int} {L : Nat} {d : Nat}  {s : Pl} {Q : Option AV → Pl → Prop} (hd : 1 ≤ d) (k : Fr xs L T0 106 (d - 1) 145 0 [some (rf 73), none, none, none, none] [] s Q) : Ev xs L T0 106 d 145 [rf 73] s Q := Ev.of (by decide) _ rfl hd k
theorem f145_4 {xs : Nat → Int} {L : Nat} {d : Nat} {v1 : Int} {v2 : Int} {w3 : Option AV} {w4 : Option AV} {s : Pl} {P : Int → Pl → Prop} (h : ((12 ≤ v2 → P (-1) s) ∧ (¬ (12 ≤ v2) → Fr xs L T0 106 d 145 18 [some (rf 73), some (it v1), some (it v2), some (it (s 72 21)), some (it 1)] [] s (qi P)))) : Fr xs L T0 106 d 145 4 [some (rf 73), some (it v1), some (it v2), w3, w4] [] s (qi P) := by
  refine Fr.ildn (by decide +kernel : zi 145 4 = some (.iload_n 2, 1)) rfl ?_
  refine Fr.bipush (by decide +kernel : zi 145 5 = some (.bipush 12, 2)) (by decide) ?_
  refine Fr.if2 (q := 93) (by decide +kernel : zi 145 7 = some (.if_icmp .ge 86, 3)) (by decide +kernel) (fun g9 => ?_) (fun g9 => ?_)
  · have h := h.1 g9
    refine Fr.iconst (by decide +kernel : zi 145 93 = some (.iconst (-1), 1)) (by decide) ?_
    exact Fr.retI (by decide +kernel : zi 145 94 = some (.ireturn, 1)) (by decide +kernel) h
  · have h := h.2 g9
    refine Fr.aldn (c := 73) (by decide +kernel : zi 145 10 = some (.aload_n 0, 1)) rfl ⟨by omega, by omega⟩ ?_
    refine Fr.gI (c := 72) (ci := 8) (k := 21) (t := 0) 21 (by decide +kernel : zi 145 11 = some (.getfield 152, 3)) (by decide +kernel) (by decide +kernel) (by decide +kernel) (by decide) rfl ?_
    refine Fr.istn (lv2 := [some (rf 73), some (it v1), some (it v2), some (it (s 72 21)), w4]) (by decide +kernel : zi 145 14 = some (.istore_n 3, 1)) (Nat.le_of_ble_eq_true rfl) rfl ?_
    refine Fr.iconst (by decide +kernel : zi 145 15 = some (.iconst 1, 1)) (by decide) ?_
    refine Fr.ist (lv2 := [some (rf 73), some (it v1), some (it v2), some (it (s 72 21)), some (it 1)]) (by decide +kernel : zi 145 16 = some (.istore 4, 2)) (Nat.le_of_ble_eq_true rfl) rfl ?_
    exact h
theorem f145_18 {xs : Nat → Int} {L : Nat} {d : Nat} {v1 : Int} {v2 : Int} {v3 : Int} {v4 : Int} {s : Pl} {P : Int → Pl → Prop} (h : (0 ≤ v1 ∧ v1 < 47) ∧ ((s 87 v1 = 32 → ((v4 = 0 → Fr xs L T0 106 d 145 87 [some (rf 73), some (it (zw (v1 + 1))), some (it v2), some (it v3), some (it v4)] [] s (qi P)) ∧ (¬ (v4 = 0) → ((¬ v3 = s 72 22 → Fr xs L T0 106 d 145 87 [some (rf 73), some (it (zw (v1 + 1))), some (it v2), some (it v3), some (it v4)] [] s (qi P)) ∧ (¬ (¬ v3 = s 72 22) → (0 ≤ v2 ∧ v2 < 12) ∧ P (s 88 v2) s))))) ∧ (¬ (s 87 v1 = 32) → ((s 72 22 ≤ v3 → Fr xs L T0 106 d 145 52 [some (rf 73), some (it v1), some (it v2), some (it v3), some (it v4)] [] s (qi P)) ∧ (¬ (s 72 22 ≤ v3) → (0 ≤ v3 ∧ v3 < 160) ∧ (0 ≤ v1 ∧ v1 < 47) ∧ ((s 81 v3 = s 87 v1 → Fr xs L T0 106 d 145 55 [some (rf 73), some (it v1), some (it v2), some (it v3), some (it v4)] [] s (qi P)) ∧ (¬ (s 81 v3 = s 87 v1) → Fr xs L T0 106 d 145 52 [some (rf 73), some (it v1), some (it v2), some (it v3), some (it v4)] [] s (qi P)))))))) : Fr xs L T0 106 d 145 18 [some (rf 73), some (it v1), some (it v2), some (it v3), some (it v4)] [] s (qi P) := by
  refine Fr.aldn (c := 73) (by decide +kernel : zi 145 18 = some (.aload_n 0, 1)) rfl ⟨by omega, by omega⟩ ?_
  refine Fr.gR (c := 72) (c2 := 88) (ci := 8) (k := 27) 27 (by decide +kernel : zi 145 19 = some (.getfield 57, 3)) (by decide +kernel) (by decide +kernel) (by decide +kernel) (by decide) rfl (fun q => q (72, 27, 88) (by decide +kernel)) ?_
  refine Fr.ildn (by decide +kernel : zi 145 22 = some (.iload_n 1, 1)) rfl ?_
  obtain ⟨⟨g0, g1⟩, h⟩ := h
  refine Fr.iald (c := 87) (N := 47) (by decide +kernel : zi 145 23 = some (.iaload, 1)) (by decide +kernel) (by decide) g0 g1 ?_
  refine Fr.bipush (by decide +kernel : zi 145 24 = some (.bipush 32, 2)) (by decide) ?_
  refine Fr.if2 (q := 64) (by decide +kernel : zi 145 26 = some (.if_icmp .eq 38, 3)) (by decide +kernel) (fun g9 => ?_) (fun g9 => ?_)
  · have h := h.1 g9
    refine Fr.iinc (lv2 := [some (rf 73), some (it (zw (v1 + 1))), some (it v2), some (it v3), some (it v4)]) (by decide +kernel : zi 145 64 = some (.iinc 1 1, 3)) (Nat.le_of_ble_eq_true rfl) rfl rfl ?_
    refine Fr.ild (by decide +kernel : zi 145 67 = some (.iload 4, 2)) rfl ?_
    refine Fr.if0 (q := 87) (by decide +kernel : zi 145 69 = some (.ifCond .eq 18, 3)) (by decide +kernel) (fun g9 => ?_) (fun g9 => ?_)
    · have h := h.1 g9
      exact h
    · have h := h.2 g9
      refine Fr.ildn (by decide +kernel : zi 145 72 = some (.iload_n 3, 1)) rfl ?_
      refine Fr.aldn (c := 73) (by decide +kernel : zi 145 73 = some (.aload_n 0, 1)) rfl ⟨by omega, by omega⟩ ?_
      refine Fr.gI (c := 72) (ci := 8) (k := 22) (t := 0) 22 (by decide +kernel : zi 145 74 = some (.getfield 155, 3)) (by decide +kernel) (by decide +kernel) (by decide +kernel) (by decide) rfl ?_
      refine Fr.if2 (q := 87) (by decide +kernel : zi 145 77 = some (.if_icmp .ne 10, 3)) (by decide +kernel) (fun g9 => ?_) (fun g9 => ?_)
      · have h := h.1 g9
        exact h
      · have h := h.2 g9
        refine Fr.aldn (c := 73) (by decide +kernel : zi 145 80 = some (.aload_n 0, 1)) rfl ⟨by omega, by omega⟩ ?_
        refine Fr.gR (c := 72) (c2 := 89) (ci := 8) (k := 28) 28 (by decide +kernel : zi 145 81 = some (.getfield 60, 3)) (by decide +kernel) (by decide +kernel) (by decide +kernel) (by decide) rfl (fun q => q (72, 28, 89) (by decide +kernel)) ?_
        refine Fr.ildn (by decide +kernel : zi 145 84 = some (.iload_n 2, 1)) rfl ?_
        obtain ⟨⟨g0, g1⟩, h⟩ := h
        refine Fr.iald (c := 88) (N := 12) (by decide +kernel : zi 145 85 = some (.iaload, 1)) (by decide +kernel) (by decide) g0 g1 ?_
        exact Fr.retI (by decide +kernel : zi 145 86 = some (.ireturn, 1)) (by decide +kernel) h
  · have h := h.2 g9
    refine Fr.ildn (by decide +kernel : zi 145 29 = some (.iload_n 3, 1)) rfl ?_
    refine Fr.aldn (c := 73) (by decide +kernel : zi 145 30 = some (.aload_n 0, 1)) rfl ⟨by omega, by omega⟩ ?_
    refine Fr.gI (c := 72) (ci := 8) (k := 22) (t := 0) 22 (by decide +kernel : zi 145 31 = some (.getfield 155, 3)) (by decide +kernel) (by decide +kernel) (by decide +kernel) (by decide) rfl ?_
    refine Fr.if2 (q := 52) (by decide +kernel : zi 145 34 = some (.if_icmp .ge 18, 3)) (by decide +kernel) (fun g9 => ?_) (fun g9 => ?_)
    · have h := h.1 g9
      exact h
    · have h := h.2 g9
      refine Fr.aldn (c := 73) (by decide +kernel : zi 145 37 = some (.aload_n 0, 1)) rfl ⟨by omega, by omega⟩ ?_
      refine Fr.gR (c := 72) (c2 := 82) (ci := 8) (k := 11) 11 (by decide +kernel : zi 145 38 = some (.getfield 34, 3)) (by decide +kernel) (by decide +kernel) (by decide +kernel) (by decide) rfl (fun q => q (72, 11, 82) (by decide +kernel)) ?_
      refine Fr.ildn (by decide +kernel : zi 145 41 = some (.iload_n 3, 1)) rfl ?_
      obtain ⟨⟨g0, g1⟩, h⟩ := h
      refine Fr.bald (c := 81) (N := 160) (K := 21) (by decide +kernel : zi 145 42 = some (.baload, 1)) (by decide +kernel) (by decide) (by decide) g0 g1 ?_
      refine Fr.aldn (c := 73) (by decide +kernel : zi 145 43 = some (.aload_n 0, 1)) rfl ⟨by omega, by omega⟩ ?_
      refine Fr.gR (c := 72) (c2 := 88) (ci := 8) (k := 27) 27 (by decide +kernel : zi 145 44 = some (.getfield 57, 3)) (by decide +kernel) (by decide +kernel) (by decide +kernel) (by decide) rfl (fun q => q (72, 27, 88) (by decide +kernel)) ?_
      refine Fr.ildn (by decide +kernel : zi 145 47 = some (.iload_n 1, 1)) rfl ?_
      obtain ⟨⟨g0, g1⟩, h⟩ := h
      refine Fr.iald (c := 87) (N := 47) (by decide +kernel : zi 145 48 = some (.iaload, 1)) (by decide +kernel) (by decide) g0 g1 ?_
      refine Fr.if2 (q := 55) (by decide +kernel : zi 145 49 = some (.if_icmp .eq 6, 3)) (by decide +kernel) (fun g9 => ?_) (fun g9 => ?_)
      · have h := h.1 g9
        exact h
      · have h := h.2 g9
        exact h
theorem f145_52 {xs : Nat → Int} {L : Nat} {d : Nat} {v1 : Int} {v2 : Int} {v3 : Int} {v4 : Int} {s : Pl} {P : Int → Pl → Prop} (h : Fr xs L T0 106 d 145 55 [some (rf 73), some (it v1), some (it v2), some (it v3), some (it 0)] [] s (qi P)) : Fr xs L T0 106 d 145 52 [some (rf 73), some (it v1), some (it v2), some (it v3), some (it v4)] [] s (qi P) := by
  refine Fr.iconst (by decide +kernel : zi 145 52 = some (.iconst 0, 1)) (by decide) ?_
  refine Fr.ist (lv2 := [some (rf 73), some (it v1), some (it v2), some (it v3), some (it 0)]) (by decide +kernel : zi 145 53 = some (.istore 4, 2)) (Nat.le_of_ble_eq_true rfl) rfl ?_
  exact h
theorem f145_55 {xs : Nat → Int} {L : Nat} {d : Nat} {v1 : Int} {v2 : Int} {v3 : Int} {v4 : Int} {s : Pl} {P : Int → Pl → Prop} (h : Fr xs L T0 106 d 145 18 [some (rf 73), some (it (zw (v1 + 1))), some (it v2), some (it (zw (v3 + 1))), some (it v4)] [] s (qi P)) : Fr xs L T0 106 d 145 55 [some (rf 73), some (it v1), some (it v2), some (it v3), some (it v4)] [] s (qi P) := by
  refine Fr.iinc (lv2 := [some (rf 73), some (it v1), some (it v2), some (it (zw (v3 + 1))), some (it v4)]) (by decide +kernel : zi 145 55 = some (.iinc 3 1, 3)) (Nat.le_of_ble_eq_true rfl) rfl rfl ?_
  refine Fr.iinc (lv2 := [some (rf 73), some (it (zw (v1 + 1))), some (it v2), some (it (zw (v3 + 1))), some (it v4)]) (by decide +kernel : zi 145 58 = some (.iinc 1 1, 3)) (Nat.le_of_ble_eq_true rfl) rfl rfl ?_
  refine Fr.goto (q := 18) (by decide +kernel : zi 145 61 = some (.goto (-43), 3)) (by decide +kernel) ?_
  exact h
theorem f145_87 {xs : Nat → Int} {L : Nat} {d : Nat} {v1 : Int} {v2 : Int} {v3 : Int} {v4 : Int} {s : Pl} {P : Int → Pl → Prop} (h : Fr xs L T0 106 d 145 4 [some (rf 73), some (it v1), some (it (zw (v2 + 1))), some (it v3), some (it v4)] [] s (qi P)) : Fr xs L T0 106 d 145 87 [some (rf 73), some (it v1), some (it v2), some (it v3), some (it v4)] [] s (qi P) := by
  refine Fr.iinc (lv2 := [some (rf 73), some (it v1), some (it (zw (v2 + 1))), some (it v3), some (it v4)]) (by decide +kernel : zi 145 87 = some (.iinc 2 1, 3)) (Nat.le_of_ble_eq_true rfl) rfl rfl ?_
  refine Fr.goto (q := 4) (by decide +kernel : zi 145 90 = some (.goto (-86), 3)) (by decide +kernel) ?_
  exact h
-- 146 X8_next
theorem f146_0 {xs : Nat → Int} {L : Nat} {d : Nat}  {s : Pl} {P : Pl → Prop} (h : Fr xs L T0 106 d 146 8 [some (rf 73), none] [] (zup s 72 21 (s 72 22)) (qv P)) : Fr xs L T0 106 d 146 0 [some (rf 73), none] [] s (qv P) := by
  refine Fr.aldn (c := 73) (by decide +kernel : zi 146 0 = some (.aload_n 0, 1)) rfl ⟨by omega, by omega⟩ ?_
  refine Fr.aldn (c := 73) (by decide +kernel : zi 146 1 = some (.aload_n 0, 1)) rfl ⟨by omega, by omega⟩ ?_
  refine Fr.gI (c := 72) (ci := 8) (k := 22) (t := 0) 22 (by decide +kernel : zi 146 2 = some (.getfield 155, 3)) (by decide +kernel) (by decide +kernel) (by decide +kernel) (by decide) rfl ?_
  refine Fr.pI (c := 72) (ci := 8) (k := 21) 21 (by decide +kernel : zi 146 5 = some (.putfield 152, 3)) (by decide +kernel) (by decide +kernel) (by decide +kernel) (by decide) rfl ?_
  exact h
theorem e146 {xs : Nat → Int} {L : Nat} {d : Nat}  {s : Pl} {Q : Option AV → Pl → Prop} (hd : 1 ≤ d) (k : Fr xs L T0 106 (d - 1) 146 0 [some (rf 73), none] [] s Q) : Ev xs L T0 106 d 146 [rf 73] s Q := Ev.of (by decide) _ rfl hd k
theorem f146_8 {xs : Nat → Int} {L : Nat} {d : Nat}  {s : Pl} {P : Pl → Prop} (h : ((s 72 12 ≤ s 72 21 → Fr xs L T0 106 d 146 60 [some (rf 73), none] [] s (qv P)) ∧ (¬ (s 72 12 ≤ s 72 21) → (0 ≤ s 72 21 ∧ s 72 21 < 160) ∧ ((s 81 (s 72 21) = 32 → Fr xs L T0 106 d 146 47 [some (rf 73), none] [] s (qv P)) ∧ (¬ (s 81 (s 72 21) = 32) → (0 ≤ s 72 21 ∧ s 72 21 < 160) ∧ ((¬ s 81 (s 72 21) = 10 → Fr xs L T0 106 d 146 60 [some (rf 73), none] [] s (qv P)) ∧ (¬ (¬ s 81 (s 72 21) = 10) → Fr xs L T0 106 d 146 47 [some (rf 73), none] [] s (qv P)))))))) : Fr xs L T0 106 d 146 8 [some (rf 73), none] [] s (qv P) := by
  refine Fr.aldn (c := 73) (by decide +kernel : zi 146 8 = some (.aload_n 0, 1)) rfl ⟨by omega, by omega⟩ ?_
  refine Fr.gI (c := 72) (ci := 8) (k := 21) (t := 0) 21 (by decide +kernel : zi 146 9 = some (.getfield 152, 3)) (by decide +kernel) (by decide +kernel) (by decide +kernel) (by decide) rfl ?_
  refine Fr.aldn (c := 73) (by decide +kernel : zi 146 12 = some (.aload_n 0, 1)) rfl ⟨by omega, by omega⟩ ?_
  refine Fr.gI (c := 72) (ci := 8) (k := 12) (t := 0) 12 (by decide +kernel : zi 146 13 = some (.getfield 142, 3)) (by decide +kernel) (by decide +kernel) (by decide +kernel) (by decide) rfl ?_
  refine Fr.if2 (q := 60) (by decide +kernel : zi 146 16 = some (.if_icmp .ge 44, 3)) (by decide +kernel) (fun g9 => ?_) (fun g9 => ?_)
  · have h := h.1 g9
    exact h
  · have h := h.2 g9
    refine Fr.aldn (c := 73) (by decide +kernel : zi 146 19 = some (.aload_n 0, 1)) rfl ⟨by omega, by omega⟩ ?_
    refine Fr.gR (c := 72) (c2 := 82) (ci := 8) (k := 11) 11 (by decide +kernel : zi 146 20 = some (.getfield 34, 3)) (by decide +kernel) (by decide +kernel) (by decide +kernel) (by decide) rfl (fun q => q (72, 11, 82) (by decide +kernel)) ?_
    refine Fr.aldn (c := 73) (by decide +kernel : zi 146 23 = some (.aload_n 0, 1)) rfl ⟨by omega, by omega⟩ ?_
    refine Fr.gI (c := 72) (ci := 8) (k := 21) (t := 0) 21 (by decide +kernel : zi 146 24 = some (.getfield 152, 3)) (by decide +kernel) (by decide +kernel) (by decide +kernel) (by decide) rfl ?_
    obtain ⟨⟨g0, g1⟩, h⟩ := h
    refine Fr.bald (c := 81) (N := 160) (K := 21) (by decide +kernel : zi 146 27 = some (.baload, 1)) (by decide +kernel) (by decide) (by decide) g0 g1 ?_
    refine Fr.bipush (by decide +kernel : zi 146 28 = some (.bipush 32, 2)) (by decide) ?_
    refine Fr.if2 (q := 47) (by decide +kernel : zi 146 30 = some (.if_icmp .eq 17, 3)) (by decide +kernel) (fun g9 => ?_) (fun g9 => ?_)
    · have h := h.1 g9
      exact h
    · have h := h.2 g9
      refine Fr.aldn (c := 73) (by decide +kernel : zi 146 33 = some (.aload_n 0, 1)) rfl ⟨by omega, by omega⟩ ?_
      refine Fr.gR (c := 72) (c2 := 82) (ci := 8) (k := 11) 11 (by decide +kernel : zi 146 34 = some (.getfield 34, 3)) (by decide +kernel) (by decide +kernel) (by decide +kernel) (by decide) rfl (fun q => q (72, 11, 82) (by decide +kernel)) ?_
      refine Fr.aldn (c := 73) (by decide +kernel : zi 146 37 = some (.aload_n 0, 1)) rfl ⟨by omega, by omega⟩ ?_
      refine Fr.gI (c := 72) (ci := 8) (k := 21) (t := 0) 21 (by decide +kernel : zi 146 38 = some (.getfield 152, 3)) (by decide +kernel) (by decide +kernel) (by decide +kernel) (by decide) rfl ?_
      obtain ⟨⟨g0, g1⟩, h⟩ := h
      refine Fr.bald (c := 81) (N := 160) (K := 21) (by decide +kernel : zi 146 41 = some (.baload, 1)) (by decide +kernel) (by decide) (by decide) g0 g1 ?_
      refine Fr.bipush (by decide +kernel : zi 146 42 = some (.bipush 10, 2)) (by decide) ?_
      refine Fr.if2 (q := 60) (by decide +kernel : zi 146 44 = some (.if_icmp .ne 16, 3)) (by decide +kernel) (fun g9 => ?_) (fun g9 => ?_)
      · have h := h.1 g9
        exact h
      · have h := h.2 g9
        exact h
theorem f146_47 {xs : Nat → Int} {L : Nat} {d : Nat}  {s : Pl} {P : Pl → Prop} (h : Fr xs L T0 106 d 146 8 [some (rf 73), none] [] (zup s 72 21 (zw ((s 72 21) + 1))) (qv P)) : Fr xs L T0 106 d 146 47 [some (rf 73), none] [] s (qv P) := by
  refine Fr.aldn (c := 73) (by decide +kernel : zi 146 47 = some (.aload_n 0, 1)) rfl ⟨by omega, by omega⟩ ?_
  refine Fr.dup (by decide +kernel : zi 146 48 = some (.dup, 1)) rfl ?_
  refine Fr.gI (c := 72) (ci := 8) (k := 21) (t := 0) 21 (by decide +kernel : zi 146 49 = some (.getfield 152, 3)) (by decide +kernel) (by decide +kernel) (by decide +kernel) (by decide) rfl ?_
  refine Fr.iconst (by decide +kernel : zi 146 52 = some (.iconst 1, 1)) (by decide) ?_
  refine Fr.iadd (by decide +kernel : zi 146 53 = some (.iadd, 1)) ?_
  refine Fr.pI (c := 72) (ci := 8) (k := 21) 21 (by decide +kernel : zi 146 54 = some (.putfield 152, 3)) (by decide +kernel) (by decide +kernel) (by decide +kernel) (by decide) rfl ?_
  refine Fr.goto (q := 8) (by decide +kernel : zi 146 57 = some (.goto (-49), 3)) (by decide +kernel) ?_
  exact h
theorem f146_60 {xs : Nat → Int} {L : Nat} {d : Nat}  {s : Pl} {P : Pl → Prop} (h : (((zup s 72 22 (s 72 21)) 72 21 < (zup s 72 22 (s 72 21)) 72 12 → (0 ≤ (zup s 72 22 (s 72 21)) 72 21 ∧ (zup s 72 22 (s 72 21)) 72 21 < 160) ∧ Ev xs L T0 106 d 143 [it ((zup s 72 22 (s 72 21)) 81 ((zup s 72 22 (s 72 21)) 72 21))] (zup s 72 22 (s 72 21)) (qi fun r2 s1 => ((r2 = 0 → Ev xs L T0 106 d 144 [it ((zup s 72 22 (s 72 21)) 81 ((zup s 72 22 (s 72 21)) 72 21))] s1 (qi fun r4 s3 => ((r4 = 0 → (((zup s 72 22 (s 72 21)) 81 ((zup s 72 22 (s 72 21)) 72 21) = 40 → Fr xs L T0 106 d 146 353 [some (rf 73), some (it ((zup s 72 22 (s 72 21)) 81 ((zup s 72 22 (s 72 21)) 72 21)))] [rf 73] (zup (zup s3 72 22 (zw ((s3 72 22) + 1))) 72 24 ((zup s 72 22 (s 72 21)) 81 ((zup s 72 22 (s 72 21)) 72 21))) (qv P)) ∧ (¬ ((zup s 72 22 (s 72 21)) 81 ((zup s 72 22 (s 72 21)) 72 21) = 40) → (((zup s 72 22 (s 72 21)) 81 ((zup s 72 22 (s 72 21)) 72 21) = 41 → Fr xs L T0 106 d 146 353 [some (rf 73), some (it ((zup s 72 22 (s 72 21)) 81 ((zup s 72 22 (s 72 21)) 72 21)))] [rf 73] (zup (zup s3 72 22 (zw ((s3 72 22) + 1))) 72 24 ((zup s 72 22 (s 72 21)) 81 ((zup s 72 22 (s 72 21)) 72 21))) (qv P)) ∧ (¬ ((zup s 72 22 (s 72 21)) 81 ((zup s 72 22 (s 72 21)) 72 21) = 41) → (((zup s 72 22 (s 72 21)) 81 ((zup s 72 22 (s 72 21)) 72 21) = 59 → Fr xs L T0 106 d 146 353 [some (rf 73), some (it ((zup s 72 22 (s 72 21)) 81 ((zup s 72 22 (s 72 21)) 72 21)))] [rf 73] (zup (zup s3 72 22 (zw ((s3 72 22) + 1))) 72 24 ((zup s 72 22 (s 72 21)) 81 ((zup s 72 22 (s 72 21)) 72 21))) (qv P)) ∧ (¬ ((zup s 72 22 (s 72 21)) 81 ((zup s 72 22 (s 72 21)) 72 21) = 59) → (((zup s 72 22 (s 72 21)) 81 ((zup s 72 22 (s 72 21)) 72 21) = 43 → Fr xs L T0 106 d 146 353 [some (rf 73), some (it ((zup s 72 22 (s 72 21)) 81 ((zup s 72 22 (s 72 21)) 72 21)))] [rf 73] (zup (zup s3 72 22 (zw ((s3 72 22) + 1))) 72 24 ((zup s 72 22 (s 72 21)) 81 ((zup s 72 22 (s 72 21)) 72 21))) (qv P)) ∧ (¬ ((zup s 72 22 (s 72 21)) 81 ((zup s 72 22 (s 72 21)) 72 21) = 43) → (((zup s 72 22 (s 72 21)) 81 ((zup s 72 22 (s 72 21)) 72 21) = 45 → Fr xs L T0 106 d 146 353 [some (rf 73), some (it ((zup s 72 22 (s 72 21)) 81 ((zup s 72 22 (s 72 21)) 72 21)))] [rf 73] (zup (zup s3 72 22 (zw ((s3 72 22) + 1))) 72 24 ((zup s 72 22 (s 72 21)) 81 ((zup s 72 22 (s 72 21)) 72 21))) (qv P)) ∧ (¬ ((zup s 72 22 (s 72 21)) 81 ((zup s 72 22 (s 72 21)) 72 21) = 45) → (((zup s 72 22 (s 72 21)) 81 ((zup s 72 22 (s 72 21)) 72 21) = 42 → Fr xs L T0 106 d 146 353 [some (rf 73), some (it ((zup s 72 22 (s 72 21)) 81 ((zup s 72 22 (s 72 21)) 72 21)))] [rf 73] (zup (zup s3 72 22 (zw ((s3 72 22) + 1))) 72 24 ((zup s 72 22 (s 72 21)) 81 ((zup s 72 22 (s 72 21)) 72 21))) (qv P)) ∧ (¬ ((zup s 72 22 (s 72 21)) 81 ((zup s 72 22 (s 72 21)) 72 21) = 42) → (((zup s 72 22 (s 72 21)) 81 ((zup s 72 22 (s 72 21)) 72 21) = 60 → Fr xs L T0 106 d 146 353 [some (rf 73), some (it ((zup s 72 22 (s 72 21)) 81 ((zup s 72 22 (s 72 21)) 72 21)))] [rf 73] (zup (zup s3 72 22 (zw ((s3 72 22) + 1))) 72 24 ((zup s 72 22 (s 72 21)) 81 ((zup s 72 22 (s 72 21)) 72 21))) (qv P)) ∧ (¬ ((zup s 72 22 (s 72 21)) 81 ((zup s 72 22 (s 72 21)) 72 21) = 60) → ((¬ (zup s 72 22 (s 72 21)) 81 ((zup s 72 22 (s 72 21)) 72 21) = 61 → Fr xs L T0 106 d 146 358 [some (rf 73), some (it ((zup s 72 22 (s 72 21)) 81 ((zup s 72 22 (s 72 21)) 72 21)))] [it 5, rf 73] (zup (zup s3 72 22 (zw ((s3 72 22) + 1))) 72 24 ((zup s 72 22 (s 72 21)) 81 ((zup s 72 22 (s 72 21)) 72 21))) (qv P)) ∧ (¬ (¬ (zup s 72 22 (s 72 21)) 81 ((zup s 72 22 (s 72 21)) 72 21) = 61) → Fr xs L T0 106 d 146 353 [some (rf 73), some (it ((zup s 72 22 (s 72 21)) 81 ((zup s 72 22 (s 72 21)) 72 21)))] [rf 73] (zup (zup s3 72 22 (zw ((s3 72 22) + 1))) 72 24 ((zup s 72 22 (s 72 21)) 81 ((zup s 72 22 (s 72 21)) 72 21))) (qv P)))))))))))))))))) ∧ (¬ (r4 = 0) → Fr xs L T0 106 d 146 188 [some (rf 73), some (it ((zup s 72 22 (s 72 21)) 81 ((zup s 72 22 (s 72 21)) 72 21)))] [] (zup s3 72 24 0) (qv P))))) ∧ (¬ (r2 = 0) → Fr xs L T0 106 d 146 110 [some (rf 73), some (it ((zup s 72 22 (s 72 21)) 81 ((zup s 72 22 (s 72 21)) 72 21)))] [] s1 (qv P))))) ∧ (¬ ((zup s 72 22 (s 72 21)) 72 21 < (zup s 72 22 (s 72 21)) 72 12) → P (zup (zup (zup s 72 22 (s 72 21)) 72 21 ((zup s 72 22 (s 72 21)) 72 12)) 72 23 4)))) : Fr xs L T0 106 d 146 60 [some (rf 73), none] [] s (qv P) := by
  refine Fr.aldn (c := 73) (by decide +kernel : zi 146 60 = some (.aload_n 0, 1)) rfl ⟨by omega, by omega⟩ ?_
  refine Fr.aldn (c := 73) (by decide +kernel : zi 146 61 = some (.aload_n 0, 1)) rfl ⟨by omega, by omega⟩ ?_
  refine Fr.gI (c := 72) (ci := 8) (k := 21) (t := 0) 21 (by decide +kernel : zi 146 62 = some (.getfield 152, 3)) (by decide +kernel) (by decide +kernel) (by decide +kernel) (by decide) rfl ?_
  refine Fr.pI (c := 72) (ci := 8) (k := 22) 22 (by decide +kernel : zi 146 65 = some (.putfield 155, 3)) (by decide +kernel) (by decide +kernel) (by decide +kernel) (by decide) rfl ?_
  refine Fr.aldn (c := 73) (by decide +kernel : zi 146 68 = some (.aload_n 0, 1)) rfl ⟨by omega, by omega⟩ ?_
  refine Fr.gI (c := 72) (ci := 8) (k := 21) (t := 0) 21 (by decide +kernel : zi 146 69 = some (.getfield 152, 3)) (by decide +kernel) (by decide +kernel) (by decide +kernel) (by decide) rfl ?_
  refine Fr.aldn (c := 73) (by decide +kernel : zi 146 72 = some (.aload_n 0, 1)) rfl ⟨by omega, by omega⟩ ?_
  refine Fr.gI (c := 72) (ci := 8) (k := 12) (t := 0) 12 (by decide +kernel : zi 146 73 = some (.getfield 142, 3)) (by decide +kernel) (by decide +kernel) (by decide +kernel) (by decide) rfl ?_
  refine Fr.if2 (q := 93) (by decide +kernel : zi 146 76 = some (.if_icmp .lt 17, 3)) (by decide +kernel) (fun g9 => ?_) (fun g9 => ?_)
  · have h := h.1 g9
    refine Fr.aldn (c := 73) (by decide +kernel : zi 146 93 = some (.aload_n 0, 1)) rfl ⟨by omega, by omega⟩ ?_
    refine Fr.gR (c := 72) (c2 := 82) (ci := 8) (k := 11) 11 (by decide +kernel : zi 146 94 = some (.getfield 34, 3)) (by decide +kernel) (by decide +kernel) (by decide +kernel) (by decide) rfl (fun q => q (72, 11, 82) (by decide +kernel)) ?_
    refine Fr.aldn (c := 73) (by decide +kernel : zi 146 97 = some (.aload_n 0, 1)) rfl ⟨by omega, by omega⟩ ?_
    refine Fr.gI (c := 72) (ci := 8) (k := 21) (t := 0) 21 (by decide +kernel : zi 146 98 = some (.getfield 152, 3)) (by decide +kernel) (by decide +kernel) (by decide +kernel) (by decide) rfl ?_
    obtain ⟨⟨g0, g1⟩, h⟩ := h
    refine Fr.bald (c := 81) (N := 160) (K := 21) (by decide +kernel : zi 146 101 = some (.baload, 1)) (by decide +kernel) (by decide) (by decide) g0 g1 ?_
    refine Fr.istn (lv2 := [some (rf 73), some (it ((zup s 72 22 (s 72 21)) 81 ((zup s 72 22 (s 72 21)) 72 21)))]) (by decide +kernel : zi 146 102 = some (.istore_n 1, 1)) (Nat.le_of_ble_eq_true rfl) rfl ?_
    refine Fr.ildn (by decide +kernel : zi 146 103 = some (.iload_n 1, 1)) rfl ?_
    refine Fr.callI (y2 := 143) (na := 1) (as := [it ((zup s 72 22 (s 72 21)) 81 ((zup s 72 22 (s 72 21)) 72 21))]) (rest := []) (by decide +kernel : zi 146 104 = some (.invokestatic 161, 3)) rfl (by decide +kernel) (by decide +kernel) rfl rfl (zok_S rfl (by decide) (by decide +kernel) rfl (Nat.le_of_ble_eq_true rfl)) h (fun r2 s1 h => ?_)
    refine Fr.if0 (q := 176) (by decide +kernel : zi 146 107 = some (.ifCond .eq 69, 3)) (by decide +kernel) (fun g9 => ?_) (fun g9 => ?_)
    · have h := h.1 g9
      refine Fr.ildn (by decide +kernel : zi 146 176 = some (.iload_n 1, 1)) rfl ?_
      refine Fr.callI (y2 := 144) (na := 1) (as := [it ((zup s 72 22 (s 72 21)) 81 ((zup s 72 22 (s 72 21)) 72 21))]) (rest := []) (by decide +kernel : zi 146 177 = some (.invokestatic 171, 3)) rfl (by decide +kernel) (by decide +kernel) rfl rfl (zok_S rfl (by decide) (by decide +kernel) rfl (Nat.le_of_ble_eq_true rfl)) h (fun r4 s3 h => ?_)
      refine Fr.if0 (q := 289) (by decide +kernel : zi 146 180 = some (.ifCond .eq 109, 3)) (by decide +kernel) (fun g9 => ?_) (fun g9 => ?_)
      · have h := h.1 g9
        refine Fr.aldn (c := 73) (by decide +kernel : zi 146 289 = some (.aload_n 0, 1)) rfl ⟨by omega, by omega⟩ ?_
        refine Fr.dup (by decide +kernel : zi 146 290 = some (.dup, 1)) rfl ?_
        refine Fr.gI (c := 72) (ci := 8) (k := 22) (t := 0) 22 (by decide +kernel : zi 146 291 = some (.getfield 155, 3)) (by decide +kernel) (by decide +kernel) (by decide +kernel) (by decide) rfl ?_
        refine Fr.iconst (by decide +kernel : zi 146 294 = some (.iconst 1, 1)) (by decide) ?_
        refine Fr.iadd (by decide +kernel : zi 146 295 = some (.iadd, 1)) ?_
        refine Fr.pI (c := 72) (ci := 8) (k := 22) 22 (by decide +kernel : zi 146 296 = some (.putfield 155, 3)) (by decide +kernel) (by decide +kernel) (by decide +kernel) (by decide) rfl ?_
        refine Fr.aldn (c := 73) (by decide +kernel : zi 146 299 = some (.aload_n 0, 1)) rfl ⟨by omega, by omega⟩ ?_
        refine Fr.ildn (by decide +kernel : zi 146 300 = some (.iload_n 1, 1)) rfl ?_
        refine Fr.pI (c := 72) (ci := 8) (k := 24) 24 (by decide +kernel : zi 146 301 = some (.putfield 168, 3)) (by decide +kernel) (by decide +kernel) (by decide +kernel) (by decide) rfl ?_
        refine Fr.aldn (c := 73) (by decide +kernel : zi 146 304 = some (.aload_n 0, 1)) rfl ⟨by omega, by omega⟩ ?_
        refine Fr.ildn (by decide +kernel : zi 146 305 = some (.iload_n 1, 1)) rfl ?_
        refine Fr.bipush (by decide +kernel : zi 146 306 = some (.bipush 40, 2)) (by decide) ?_
        refine Fr.if2 (q := 353) (by decide +kernel : zi 146 308 = some (.if_icmp .eq 45, 3)) (by decide +kernel) (fun g9 => ?_) (fun g9 => ?_)
        · have h := h.1 g9
          exact h
        · have h := h.2 g9
          refine Fr.ildn (by decide +kernel : zi 146 311 = some (.iload_n 1, 1)) rfl ?_
          refine Fr.bipush (by decide +kernel : zi 146 312 = some (.bipush 41, 2)) (by decide) ?_
          refine Fr.if2 (q := 353) (by decide +kernel : zi 146 314 = some (.if_icmp .eq 39, 3)) (by decide +kernel) (fun g9 => ?_) (fun g9 => ?_)
          · have h := h.1 g9
            exact h
          · have h := h.2 g9
            refine Fr.ildn (by decide +kernel : zi 146 317 = some (.iload_n 1, 1)) rfl ?_
            refine Fr.bipush (by decide +kernel : zi 146 318 = some (.bipush 59, 2)) (by decide) ?_
            refine Fr.if2 (q := 353) (by decide +kernel : zi 146 320 = some (.if_icmp .eq 33, 3)) (by decide +kernel) (fun g9 => ?_) (fun g9 => ?_)
            · have h := h.1 g9
              exact h
            · have h := h.2 g9
              refine Fr.ildn (by decide +kernel : zi 146 323 = some (.iload_n 1, 1)) rfl ?_
              refine Fr.bipush (by decide +kernel : zi 146 324 = some (.bipush 43, 2)) (by decide) ?_
              refine Fr.if2 (q := 353) (by decide +kernel : zi 146 326 = some (.if_icmp .eq 27, 3)) (by decide +kernel) (fun g9 => ?_) (fun g9 => ?_)
              · have h := h.1 g9
                exact h
              · have h := h.2 g9
                refine Fr.ildn (by decide +kernel : zi 146 329 = some (.iload_n 1, 1)) rfl ?_
                refine Fr.bipush (by decide +kernel : zi 146 330 = some (.bipush 45, 2)) (by decide) ?_
                refine Fr.if2 (q := 353) (by decide +kernel : zi 146 332 = some (.if_icmp .eq 21, 3)) (by decide +kernel) (fun g9 => ?_) (fun g9 => ?_)
                · have h := h.1 g9
                  exact h
                · have h := h.2 g9
                  refine Fr.ildn (by decide +kernel : zi 146 335 = some (.iload_n 1, 1)) rfl ?_
                  refine Fr.bipush (by decide +kernel : zi 146 336 = some (.bipush 42, 2)) (by decide) ?_
                  refine Fr.if2 (q := 353) (by decide +kernel : zi 146 338 = some (.if_icmp .eq 15, 3)) (by decide +kernel) (fun g9 => ?_) (fun g9 => ?_)
                  · have h := h.1 g9
                    exact h
                  · have h := h.2 g9
                    refine Fr.ildn (by decide +kernel : zi 146 341 = some (.iload_n 1, 1)) rfl ?_
                    refine Fr.bipush (by decide +kernel : zi 146 342 = some (.bipush 60, 2)) (by decide) ?_
                    refine Fr.if2 (q := 353) (by decide +kernel : zi 146 344 = some (.if_icmp .eq 9, 3)) (by decide +kernel) (fun g9 => ?_) (fun g9 => ?_)
                    · have h := h.1 g9
                      exact h
                    · have h := h.2 g9
                      refine Fr.ildn (by decide +kernel : zi 146 347 = some (.iload_n 1, 1)) rfl ?_
                      refine Fr.bipush (by decide +kernel : zi 146 348 = some (.bipush 61, 2)) (by decide) ?_
                      refine Fr.if2 (q := 357) (by decide +kernel : zi 146 350 = some (.if_icmp .ne 7, 3)) (by decide +kernel) (fun g9 => ?_) (fun g9 => ?_)
                      · have h := h.1 g9
                        refine Fr.iconst (by decide +kernel : zi 146 357 = some (.iconst 5, 1)) (by decide) ?_
                        exact h
                      · have h := h.2 g9
                        exact h
      · have h := h.2 g9
        refine Fr.aldn (c := 73) (by decide +kernel : zi 146 183 = some (.aload_n 0, 1)) rfl ⟨by omega, by omega⟩ ?_
        refine Fr.iconst (by decide +kernel : zi 146 184 = some (.iconst 0, 1)) (by decide) ?_
        refine Fr.pI (c := 72) (ci := 8) (k := 24) 24 (by decide +kernel : zi 146 185 = some (.putfield 168, 3)) (by decide +kernel) (by decide +kernel) (by decide +kernel) (by decide) rfl ?_
        exact h
    · have h := h.2 g9
      exact h
  · have h := h.2 g9
    refine Fr.aldn (c := 73) (by decide +kernel : zi 146 79 = some (.aload_n 0, 1)) rfl ⟨by omega, by omega⟩ ?_
    refine Fr.aldn (c := 73) (by decide +kernel : zi 146 80 = some (.aload_n 0, 1)) rfl ⟨by omega, by omega⟩ ?_
    refine Fr.gI (c := 72) (ci := 8) (k := 12) (t := 0) 12 (by decide +kernel : zi 146 81 = some (.getfield 142, 3)) (by decide +kernel) (by decide +kernel) (by decide +kernel) (by decide) rfl ?_
    refine Fr.pI (c := 72) (ci := 8) (k := 21) 21 (by decide +kernel : zi 146 84 = some (.putfield 152, 3)) (by decide +kernel) (by decide +kernel) (by decide +kernel) (by decide) rfl ?_
    refine Fr.aldn (c := 73) (by decide +kernel : zi 146 87 = some (.aload_n 0, 1)) rfl ⟨by omega, by omega⟩ ?_
    refine Fr.iconst (by decide +kernel : zi 146 88 = some (.iconst 4, 1)) (by decide) ?_
    refine Fr.pI (c := 72) (ci := 8) (k := 23) 23 (by decide +kernel : zi 146 89 = some (.putfield 158, 3)) (by decide +kernel) (by decide +kernel) (by decide +kernel) (by decide) rfl ?_
    exact Fr.retV (by decide +kernel : zi 146 92 = some (.return_, 1)) (by decide +kernel) h
theorem f146_110 {xs : Nat → Int} {L : Nat} {d : Nat} {v1 : Int} {s : Pl} {P : Pl → Prop} (h : ((s 72 12 ≤ s 72 22 → Fr xs L T0 106 d 146 149 [some (rf 73), some (it v1)] [] s (qv P)) ∧ (¬ (s 72 12 ≤ s 72 22) → (0 ≤ s 72 22 ∧ s 72 22 < 160) ∧ Ev xs L T0 106 d 143 [it (s 81 (s 72 22))] s (qi fun r2 s1 => ((r2 = 0 → Fr xs L T0 106 d 146 149 [some (rf 73), some (it v1)] [] s1 (qv P)) ∧ (¬ (r2 = 0) → Fr xs L T0 106 d 146 110 [some (rf 73), some (it v1)] [] (zup s1 72 22 (zw ((s1 72 22) + 1))) (qv P))))))) : Fr xs L T0 106 d 146 110 [some (rf 73), some (it v1)] [] s (qv P) := by
  refine Fr.aldn (c := 73) (by decide +kernel : zi 146 110 = some (.aload_n 0, 1)) rfl ⟨by omega, by omega⟩ ?_
  refine Fr.gI (c := 72) (ci := 8) (k := 22) (t := 0) 22 (by decide +kernel : zi 146 111 = some (.getfield 155, 3)) (by decide +kernel) (by decide +kernel) (by decide +kernel) (by decide) rfl ?_
  refine Fr.aldn (c := 73) (by decide +kernel : zi 146 114 = some (.aload_n 0, 1)) rfl ⟨by omega, by omega⟩ ?_
  refine Fr.gI (c := 72) (ci := 8) (k := 12) (t := 0) 12 (by decide +kernel : zi 146 115 = some (.getfield 142, 3)) (by decide +kernel) (by decide +kernel) (by decide +kernel) (by decide) rfl ?_
  refine Fr.if2 (q := 149) (by decide +kernel : zi 146 118 = some (.if_icmp .ge 31, 3)) (by decide +kernel) (fun g9 => ?_) (fun g9 => ?_)
  · have h := h.1 g9
    exact h
  · have h := h.2 g9
    refine Fr.aldn (c := 73) (by decide +kernel : zi 146 121 = some (.aload_n 0, 1)) rfl ⟨by omega, by omega⟩ ?_
    refine Fr.gR (c := 72) (c2 := 82) (ci := 8) (k := 11) 11 (by decide +kernel : zi 146 122 = some (.getfield 34, 3)) (by decide +kernel) (by decide +kernel) (by decide +kernel) (by decide) rfl (fun q => q (72, 11, 82) (by decide +kernel)) ?_
    refine Fr.aldn (c := 73) (by decide +kernel : zi 146 125 = some (.aload_n 0, 1)) rfl ⟨by omega, by omega⟩ ?_
    refine Fr.gI (c := 72) (ci := 8) (k := 22) (t := 0) 22 (by decide +kernel : zi 146 126 = some (.getfield 155, 3)) (by decide +kernel) (by decide +kernel) (by decide +kernel) (by decide) rfl ?_
    obtain ⟨⟨g0, g1⟩, h⟩ := h
    refine Fr.bald (c := 81) (N := 160) (K := 21) (by decide +kernel : zi 146 129 = some (.baload, 1)) (by decide +kernel) (by decide) (by decide) g0 g1 ?_
    refine Fr.callI (y2 := 143) (na := 1) (as := [it (s 81 (s 72 22))]) (rest := []) (by decide +kernel : zi 146 130 = some (.invokestatic 161, 3)) rfl (by decide +kernel) (by decide +kernel) rfl rfl (zok_S rfl (by decide) (by decide +kernel) rfl (Nat.le_of_ble_eq_true rfl)) h (fun r2 s1 h => ?_)
    refine Fr.if0 (q := 149) (by decide +kernel : zi 146 133 = some (.ifCond .eq 16, 3)) (by decide +kernel) (fun g9 => ?_) (fun g9 => ?_)
    · have h := h.1 g9
      exact h
    · have h := h.2 g9
      refine Fr.aldn (c := 73) (by decide +kernel : zi 146 136 = some (.aload_n 0, 1)) rfl ⟨by omega, by omega⟩ ?_
      refine Fr.dup (by decide +kernel : zi 146 137 = some (.dup, 1)) rfl ?_
      refine Fr.gI (c := 72) (ci := 8) (k := 22) (t := 0) 22 (by decide +kernel : zi 146 138 = some (.getfield 155, 3)) (by decide +kernel) (by decide +kernel) (by decide +kernel) (by decide) rfl ?_
      refine Fr.iconst (by decide +kernel : zi 146 141 = some (.iconst 1, 1)) (by decide) ?_
      refine Fr.iadd (by decide +kernel : zi 146 142 = some (.iadd, 1)) ?_
      refine Fr.pI (c := 72) (ci := 8) (k := 22) 22 (by decide +kernel : zi 146 143 = some (.putfield 155, 3)) (by decide +kernel) (by decide +kernel) (by decide +kernel) (by decide) rfl ?_
      refine Fr.goto (q := 110) (by decide +kernel : zi 146 146 = some (.goto (-36), 3)) (by decide +kernel) ?_
      exact h
theorem f146_149 {xs : Nat → Int} {L : Nat} {d : Nat} {v1 : Int} {s : Pl} {P : Pl → Prop} (h : Ev xs L T0 106 d 145 [rf 73] s (qi fun r2 s1 => ((0 ≤ (zup s1 72 24 r2) 72 24 → Fr xs L T0 106 d 146 170 [some (rf 73), some (it v1)] [it 1, rf 73] (zup s1 72 24 r2) (qv P)) ∧ (¬ (0 ≤ (zup s1 72 24 r2) 72 24) → Fr xs L T0 106 d 146 170 [some (rf 73), some (it v1)] [it 5, rf 73] (zup s1 72 24 r2) (qv P))))) : Fr xs L T0 106 d 146 149 [some (rf 73), some (it v1)] [] s (qv P) := by
  refine Fr.aldn (c := 73) (by decide +kernel : zi 146 149 = some (.aload_n 0, 1)) rfl ⟨by omega, by omega⟩ ?_
  refine Fr.aldn (c := 73) (by decide +kernel : zi 146 150 = some (.aload_n 0, 1)) rfl ⟨by omega, by omega⟩ ?_
  refine Fr.callI (y2 := 145) (na := 1) (as := [rf 73]) (rest := [rf 73]) (by decide +kernel : zi 146 151 = some (.invokevirtual 164, 3)) rfl (by decide +kernel) (by decide +kernel) rfl rfl (zok_V rfl (by decide) (by decide +kernel) (by decide +kernel) (zrecv_c (c := 72) (by decide) (by decide +kernel)) rfl (Nat.le_of_ble_eq_true rfl)) h (fun r2 s1 h => ?_)
  refine Fr.pI (c := 72) (ci := 8) (k := 24) 24 (by decide +kernel : zi 146 154 = some (.putfield 168, 3)) (by decide +kernel) (by decide +kernel) (by decide +kernel) (by decide) rfl ?_
  refine Fr.aldn (c := 73) (by decide +kernel : zi 146 157 = some (.aload_n 0, 1)) rfl ⟨by omega, by omega⟩ ?_
  refine Fr.aldn (c := 73) (by decide +kernel : zi 146 158 = some (.aload_n 0, 1)) rfl ⟨by omega, by omega⟩ ?_
  refine Fr.gI (c := 72) (ci := 8) (k := 24) (t := 0) 24 (by decide +kernel : zi 146 159 = some (.getfield 168, 3)) (by decide +kernel) (by decide +kernel) (by decide +kernel) (by decide) rfl ?_
  refine Fr.if0 (q := 169) (by decide +kernel : zi 146 162 = some (.ifCond .ge 7, 3)) (by decide +kernel) (fun g9 => ?_) (fun g9 => ?_)
  · have h := h.1 g9
    refine Fr.iconst (by decide +kernel : zi 146 169 = some (.iconst 1, 1)) (by decide) ?_
    exact h
  · have h := h.2 g9
    refine Fr.iconst (by decide +kernel : zi 146 165 = some (.iconst 5, 1)) (by decide) ?_
    refine Fr.goto (q := 170) (by decide +kernel : zi 146 166 = some (.goto 4, 3)) (by decide +kernel) ?_
    exact h
theorem f146_170 {xs : Nat → Int} {L : Nat} {d : Nat} {v1 : Int} {vs0 : Int} {s : Pl} {P : Pl → Prop} (h : P (zup s 72 23 vs0)) : Fr xs L T0 106 d 146 170 [some (rf 73), some (it v1)] [it vs0, rf 73] s (qv P) := by
  refine Fr.pI (c := 72) (ci := 8) (k := 23) 23 (by decide +kernel : zi 146 170 = some (.putfield 158, 3)) (by decide +kernel) (by decide +kernel) (by decide +kernel) (by decide) rfl ?_
  refine Fr.goto (q := 361) (by decide +kernel : zi 146 173 = some (.goto 188, 3)) (by decide +kernel) ?_
  exact Fr.retV (by decide +kernel : zi 146 361 = some (.return_, 1)) (by decide +kernel) h
theorem f146_188 {xs : Nat → Int} {L : Nat} {d : Nat} {v1 : Int} {s : Pl} {P : Pl → Prop} (h : ((s 72 12 ≤ s 72 22 → Fr xs L T0 106 d 146 264 [some (rf 73), some (it v1)] [] s (qv P)) ∧ (¬ (s 72 12 ≤ s 72 22) → (0 ≤ s 72 22 ∧ s 72 22 < 160) ∧ Ev xs L T0 106 d 144 [it (s 81 (s 72 22))] s (qi fun r2 s1 => ((r2 = 0 → Fr xs L T0 106 d 146 264 [some (rf 73), some (it v1)] [] s1 (qv P)) ∧ (¬ (r2 = 0) → ((4 ≤ zw ((s1 72 22) - (s1 72 21)) → Fr xs L T0 106 d 146 251 [some (rf 73), some (it v1)] [] s1 (qv P)) ∧ (¬ (4 ≤ zw ((s1 72 22) - (s1 72 21))) → (0 ≤ s1 72 22 ∧ s1 72 22 < 160) ∧ Fr xs L T0 106 d 146 251 [some (rf 73), some (it v1)] [] (zup s1 72 24 (zw ((zw ((zw (10 * (s1 72 24))) + (s1 81 (s1 72 22)))) - 48))) (qv P))))))))) : Fr xs L T0 106 d 146 188 [some (rf 73), some (it v1)] [] s (qv P) := by
  refine Fr.aldn (c := 73) (by decide +kernel : zi 146 188 = some (.aload_n 0, 1)) rfl ⟨by omega, by omega⟩ ?_
  refine Fr.gI (c := 72) (ci := 8) (k := 22) (t := 0) 22 (by decide +kernel : zi 146 189 = some (.getfield 155, 3)) (by decide +kernel) (by decide +kernel) (by decide +kernel) (by decide) rfl ?_
  refine Fr.aldn (c := 73) (by decide +kernel : zi 146 192 = some (.aload_n 0, 1)) rfl ⟨by omega, by omega⟩ ?_
  refine Fr.gI (c := 72) (ci := 8) (k := 12) (t := 0) 12 (by decide +kernel : zi 146 193 = some (.getfield 142, 3)) (by decide +kernel) (by decide +kernel) (by decide +kernel) (by decide) rfl ?_
  refine Fr.if2 (q := 264) (by decide +kernel : zi 146 196 = some (.if_icmp .ge 68, 3)) (by decide +kernel) (fun g9 => ?_) (fun g9 => ?_)
  · have h := h.1 g9
    exact h
  · have h := h.2 g9
    refine Fr.aldn (c := 73) (by decide +kernel : zi 146 199 = some (.aload_n 0, 1)) rfl ⟨by omega, by omega⟩ ?_
    refine Fr.gR (c := 72) (c2 := 82) (ci := 8) (k := 11) 11 (by decide +kernel : zi 146 200 = some (.getfield 34, 3)) (by decide +kernel) (by decide +kernel) (by decide +kernel) (by decide) rfl (fun q => q (72, 11, 82) (by decide +kernel)) ?_
    refine Fr.aldn (c := 73) (by decide +kernel : zi 146 203 = some (.aload_n 0, 1)) rfl ⟨by omega, by omega⟩ ?_
    refine Fr.gI (c := 72) (ci := 8) (k := 22) (t := 0) 22 (by decide +kernel : zi 146 204 = some (.getfield 155, 3)) (by decide +kernel) (by decide +kernel) (by decide +kernel) (by decide) rfl ?_
    obtain ⟨⟨g0, g1⟩, h⟩ := h
    refine Fr.bald (c := 81) (N := 160) (K := 21) (by decide +kernel : zi 146 207 = some (.baload, 1)) (by decide +kernel) (by decide) (by decide) g0 g1 ?_
    refine Fr.callI (y2 := 144) (na := 1) (as := [it (s 81 (s 72 22))]) (rest := []) (by decide +kernel : zi 146 208 = some (.invokestatic 171, 3)) rfl (by decide +kernel) (by decide +kernel) rfl rfl (zok_S rfl (by decide) (by decide +kernel) rfl (Nat.le_of_ble_eq_true rfl)) h (fun r2 s1 h => ?_)
    refine Fr.if0 (q := 264) (by decide +kernel : zi 146 211 = some (.ifCond .eq 53, 3)) (by decide +kernel) (fun g9 => ?_) (fun g9 => ?_)
    · have h := h.1 g9
      exact h
    · have h := h.2 g9
      refine Fr.aldn (c := 73) (by decide +kernel : zi 146 214 = some (.aload_n 0, 1)) rfl ⟨by omega, by omega⟩ ?_
      refine Fr.gI (c := 72) (ci := 8) (k := 22) (t := 0) 22 (by decide +kernel : zi 146 215 = some (.getfield 155, 3)) (by decide +kernel) (by decide +kernel) (by decide +kernel) (by decide) rfl ?_
      refine Fr.aldn (c := 73) (by decide +kernel : zi 146 218 = some (.aload_n 0, 1)) rfl ⟨by omega, by omega⟩ ?_
      refine Fr.gI (c := 72) (ci := 8) (k := 21) (t := 0) 21 (by decide +kernel : zi 146 219 = some (.getfield 152, 3)) (by decide +kernel) (by decide +kernel) (by decide +kernel) (by decide) rfl ?_
      refine Fr.isub (by decide +kernel : zi 146 222 = some (.isub, 1)) ?_
      refine Fr.iconst (by decide +kernel : zi 146 223 = some (.iconst 4, 1)) (by decide) ?_
      refine Fr.if2 (q := 251) (by decide +kernel : zi 146 224 = some (.if_icmp .ge 27, 3)) (by decide +kernel) (fun g9 => ?_) (fun g9 => ?_)
      · have h := h.1 g9
        exact h
      · have h := h.2 g9
        refine Fr.aldn (c := 73) (by decide +kernel : zi 146 227 = some (.aload_n 0, 1)) rfl ⟨by omega, by omega⟩ ?_
        refine Fr.bipush (by decide +kernel : zi 146 228 = some (.bipush 10, 2)) (by decide) ?_
        refine Fr.aldn (c := 73) (by decide +kernel : zi 146 230 = some (.aload_n 0, 1)) rfl ⟨by omega, by omega⟩ ?_
        refine Fr.gI (c := 72) (ci := 8) (k := 24) (t := 0) 24 (by decide +kernel : zi 146 231 = some (.getfield 168, 3)) (by decide +kernel) (by decide +kernel) (by decide +kernel) (by decide) rfl ?_
        refine Fr.imul (by decide +kernel : zi 146 234 = some (.imul, 1)) ?_
        refine Fr.aldn (c := 73) (by decide +kernel : zi 146 235 = some (.aload_n 0, 1)) rfl ⟨by omega, by omega⟩ ?_
        refine Fr.gR (c := 72) (c2 := 82) (ci := 8) (k := 11) 11 (by decide +kernel : zi 146 236 = some (.getfield 34, 3)) (by decide +kernel) (by decide +kernel) (by decide +kernel) (by decide) rfl (fun q => q (72, 11, 82) (by decide +kernel)) ?_
        refine Fr.aldn (c := 73) (by decide +kernel : zi 146 239 = some (.aload_n 0, 1)) rfl ⟨by omega, by omega⟩ ?_
        refine Fr.gI (c := 72) (ci := 8) (k := 22) (t := 0) 22 (by decide +kernel : zi 146 240 = some (.getfield 155, 3)) (by decide +kernel) (by decide +kernel) (by decide +kernel) (by decide) rfl ?_
        obtain ⟨⟨g0, g1⟩, h⟩ := h
        refine Fr.bald (c := 81) (N := 160) (K := 21) (by decide +kernel : zi 146 243 = some (.baload, 1)) (by decide +kernel) (by decide) (by decide) g0 g1 ?_
        refine Fr.iadd (by decide +kernel : zi 146 244 = some (.iadd, 1)) ?_
        refine Fr.bipush (by decide +kernel : zi 146 245 = some (.bipush 48, 2)) (by decide) ?_
        refine Fr.isub (by decide +kernel : zi 146 247 = some (.isub, 1)) ?_
        refine Fr.pI (c := 72) (ci := 8) (k := 24) 24 (by decide +kernel : zi 146 248 = some (.putfield 168, 3)) (by decide +kernel) (by decide +kernel) (by decide +kernel) (by decide) rfl ?_
        exact h
theorem f146_251 {xs : Nat → Int} {L : Nat} {d : Nat} {v1 : Int} {s : Pl} {P : Pl → Prop} (h : Fr xs L T0 106 d 146 188 [some (rf 73), some (it v1)] [] (zup s 72 22 (zw ((s 72 22) + 1))) (qv P)) : Fr xs L T0 106 d 146 251 [some (rf 73), some (it v1)] [] s (qv P) := by
  refine Fr.aldn (c := 73) (by decide +kernel : zi 146 251 = some (.aload_n 0, 1)) rfl ⟨by omega, by omega⟩ ?_
  refine Fr.dup (by decide +kernel : zi 146 252 = some (.dup, 1)) rfl ?_
  refine Fr.gI (c := 72) (ci := 8) (k := 22) (t := 0) 22 (by decide +kernel : zi 146 253 = some (.getfield 155, 3)) (by decide +kernel) (by decide +kernel) (by decide +kernel) (by decide) rfl ?_
  refine Fr.iconst (by decide +kernel : zi 146 256 = some (.iconst 1, 1)) (by decide) ?_
  refine Fr.iadd (by decide +kernel : zi 146 257 = some (.iadd, 1)) ?_
  refine Fr.pI (c := 72) (ci := 8) (k := 22) 22 (by decide +kernel : zi 146 258 = some (.putfield 155, 3)) (by decide +kernel) (by decide +kernel) (by decide +kernel) (by decide) rfl ?_
  refine Fr.goto (q := 188) (by decide +kernel : zi 146 261 = some (.goto (-73), 3)) (by decide +kernel) ?_
  exact h
theorem f146_264 {xs : Nat → Int} {L : Nat} {d : Nat} {v1 : Int} {s : Pl} {P : Pl → Prop} (h : ((zw ((s 72 22) - (s 72 21)) ≤ 4 → Fr xs L T0 106 d 146 283 [some (rf 73), some (it v1)] [it 2, rf 73] s (qv P)) ∧ (¬ (zw ((s 72 22) - (s 72 21)) ≤ 4) → Fr xs L T0 106 d 146 283 [some (rf 73), some (it v1)] [it 5, rf 73] s (qv P)))) : Fr xs L T0 106 d 146 264 [some (rf 73), some (it v1)] [] s (qv P) := by
  refine Fr.aldn (c := 73) (by decide +kernel : zi 146 264 = some (.aload_n 0, 1)) rfl ⟨by omega, by omega⟩ ?_
  refine Fr.aldn (c := 73) (by decide +kernel : zi 146 265 = some (.aload_n 0, 1)) rfl ⟨by omega, by omega⟩ ?_
  refine Fr.gI (c := 72) (ci := 8) (k := 22) (t := 0) 22 (by decide +kernel : zi 146 266 = some (.getfield 155, 3)) (by decide +kernel) (by decide +kernel) (by decide +kernel) (by decide) rfl ?_
  refine Fr.aldn (c := 73) (by decide +kernel : zi 146 269 = some (.aload_n 0, 1)) rfl ⟨by omega, by omega⟩ ?_
  refine Fr.gI (c := 72) (ci := 8) (k := 21) (t := 0) 21 (by decide +kernel : zi 146 270 = some (.getfield 152, 3)) (by decide +kernel) (by decide +kernel) (by decide +kernel) (by decide) rfl ?_
  refine Fr.isub (by decide +kernel : zi 146 273 = some (.isub, 1)) ?_
  refine Fr.iconst (by decide +kernel : zi 146 274 = some (.iconst 4, 1)) (by decide) ?_
  refine Fr.if2 (q := 282) (by decide +kernel : zi 146 275 = some (.if_icmp .le 7, 3)) (by decide +kernel) (fun g9 => ?_) (fun g9 => ?_)
  · have h := h.1 g9
    refine Fr.iconst (by decide +kernel : zi 146 282 = some (.iconst 2, 1)) (by decide) ?_
    exact h
  · have h := h.2 g9
    refine Fr.iconst (by decide +kernel : zi 146 278 = some (.iconst 5, 1)) (by decide) ?_
    refine Fr.goto (q := 283) (by decide +kernel : zi 146 279 = some (.goto 4, 3)) (by decide +kernel) ?_
    exact h
theorem f146_283 {xs : Nat → Int} {L : Nat} {d : Nat} {v1 : Int} {vs0 : Int} {s : Pl} {P : Pl → Prop} (h : P (zup s 72 23 vs0)) : Fr xs L T0 106 d 146 283 [some (rf 73), some (it v1)] [it vs0, rf 73] s (qv P) := by
  refine Fr.pI (c := 72) (ci := 8) (k := 23) 23 (by decide +kernel : zi 146 283 = some (.putfield 158, 3)) (by decide +kernel) (by decide +kernel) (by decide +kernel) (by decide) rfl ?_
  refine Fr.goto (q := 361) (by decide +kernel : zi 146 286 = some (.goto 75, 3)) (by decide +kernel) ?_
  exact Fr.retV (by decide +kernel : zi 146 361 = some (.return_, 1)) (by decide +kernel) h
theorem f146_353 {xs : Nat → Int} {L : Nat} {d : Nat} {v1 : Int} {s : Pl} {P : Pl → Prop} (h : Fr xs L T0 106 d 146 358 [some (rf 73), some (it v1)] [it 3, rf 73] s (qv P)) : Fr xs L T0 106 d 146 353 [some (rf 73), some (it v1)] [rf 73] s (qv P) := by
  refine Fr.iconst (by decide +kernel : zi 146 353 = some (.iconst 3, 1)) (by decide) ?_
  refine Fr.goto (q := 358) (by decide +kernel : zi 146 354 = some (.goto 4, 3)) (by decide +kernel) ?_
  exact h
theorem f146_358 {xs : Nat → Int} {L : Nat} {d : Nat} {v1 : Int} {vs0 : Int} {s : Pl} {P : Pl → Prop} (h : P (zup s 72 23 vs0)) : Fr xs L T0 106 d 146 358 [some (rf 73), some (it v1)] [it vs0, rf 73] s (qv P) := by
  refine Fr.pI (c := 72) (ci := 8) (k := 23) 23 (by decide +kernel : zi 146 358 = some (.putfield 158, 3)) (by decide +kernel) (by decide +kernel) (by decide +kernel) (by decide) rfl ?_
  exact Fr.retV (by decide +kernel : zi 146 361 = some (.return_, 1)) (by decide +kernel) h
-- 147 X8_faulty
theorem f147_0 {xs : Nat → Int} {L : Nat} {d : Nat}  {s : Pl} {P : Pl → Prop} (h : ((0 ≤ s 72 19 → P s) ∧ (¬ (0 ≤ s 72 19) → P (zup s 72 19 (s 72 21))))) : Fr xs L T0 106 d 147 0 [some (rf 73)] [] s (qv P) := by
  refine Fr.aldn (c := 73) (by decide +kernel : zi 147 0 = some (.aload_n 0, 1)) rfl ⟨by omega, by omega⟩ ?_
  refine Fr.gI (c := 72) (ci := 8) (k := 19) (t := 0) 19 (by decide +kernel : zi 147 1 = some (.getfield 174, 3)) (by decide +kernel) (by decide +kernel) (by decide +kernel) (by decide) rfl ?_
  refine Fr.if0 (q := 15) (by decide +kernel : zi 147 4 = some (.ifCond .ge 11, 3)) (by decide +kernel) (fun g9 => ?_) (fun g9 => ?_)
  · have h := h.1 g9
    exact Fr.retV (by decide +kernel : zi 147 15 = some (.return_, 1)) (by decide +kernel) h
  · have h := h.2 g9
    refine Fr.aldn (c := 73) (by decide +kernel : zi 147 7 = some (.aload_n 0, 1)) rfl ⟨by omega, by omega⟩ ?_
    refine Fr.aldn (c := 73) (by decide +kernel : zi 147 8 = some (.aload_n 0, 1)) rfl ⟨by omega, by omega⟩ ?_
    refine Fr.gI (c := 72) (ci := 8) (k := 21) (t := 0) 21 (by decide +kernel : zi 147 9 = some (.getfield 152, 3)) (by decide +kernel) (by decide +kernel) (by decide +kernel) (by decide) rfl ?_
    refine Fr.pI (c := 72) (ci := 8) (k := 19) 19 (by decide +kernel : zi 147 12 = some (.putfield 174, 3)) (by decide +kernel) (by decide +kernel) (by decide +kernel) (by decide) rfl ?_
    exact Fr.retV (by decide +kernel : zi 147 15 = some (.return_, 1)) (by decide +kernel) h
theorem e147 {xs : Nat → Int} {L : Nat} {d : Nat}  {s : Pl} {Q : Option AV → Pl → Prop} (hd : 1 ≤ d) (k : Fr xs L T0 106 (d - 1) 147 0 [some (rf 73)] [] s Q) : Ev xs L T0 106 d 147 [rf 73] s Q := Ev.of (by decide) _ rfl hd k
-- 148 X8_isSign
theorem f148_0 {xs : Nat → Int} {L : Nat} {d : Nat} {v1 : Int} {s : Pl} {P : Int → Pl → Prop} (h : ((0 ≤ s 72 19 → P 0 s) ∧ (¬ (0 ≤ s 72 19) → ((¬ s 72 23 = 3 → P 0 s) ∧ (¬ (¬ s 72 23 = 3) → ((¬ s 72 24 = v1 → P 0 s) ∧ (¬ (¬ s 72 24 = v1) → P 1 s))))))) : Fr xs L T0 106 d 148 0 [some (rf 73), some (it v1)] [] s (qi P) := by
  refine Fr.aldn (c := 73) (by decide +kernel : zi 148 0 = some (.aload_n 0, 1)) rfl ⟨by omega, by omega⟩ ?_
  refine Fr.gI (c := 72) (ci := 8) (k := 19) (t := 0) 19 (by decide +kernel : zi 148 1 = some (.getfield 174, 3)) (by decide +kernel) (by decide +kernel) (by decide +kernel) (by decide) rfl ?_
  refine Fr.if0 (q := 27) (by decide +kernel : zi 148 4 = some (.ifCond .ge 23, 3)) (by decide +kernel) (fun g9 => ?_) (fun g9 => ?_)
  · have h := h.1 g9
    refine Fr.iconst (by decide +kernel : zi 148 27 = some (.iconst 0, 1)) (by decide) ?_
    exact Fr.retZ (by decide +kernel : zi 148 28 = some (.ireturn, 1)) (by decide +kernel) (by decide) h
  · have h := h.2 g9
    refine Fr.aldn (c := 73) (by decide +kernel : zi 148 7 = some (.aload_n 0, 1)) rfl ⟨by omega, by omega⟩ ?_
    refine Fr.gI (c := 72) (ci := 8) (k := 23) (t := 0) 23 (by decide +kernel : zi 148 8 = some (.getfield 158, 3)) (by decide +kernel) (by decide +kernel) (by decide +kernel) (by decide) rfl ?_
    refine Fr.iconst (by decide +kernel : zi 148 11 = some (.iconst 3, 1)) (by decide) ?_
    refine Fr.if2 (q := 27) (by decide +kernel : zi 148 12 = some (.if_icmp .ne 15, 3)) (by decide +kernel) (fun g9 => ?_) (fun g9 => ?_)
    · have h := h.1 g9
      refine Fr.iconst (by decide +kernel : zi 148 27 = some (.iconst 0, 1)) (by decide) ?_
      exact Fr.retZ (by decide +kernel : zi 148 28 = some (.ireturn, 1)) (by decide +kernel) (by decide) h
    · have h := h.2 g9
      refine Fr.aldn (c := 73) (by decide +kernel : zi 148 15 = some (.aload_n 0, 1)) rfl ⟨by omega, by omega⟩ ?_
      refine Fr.gI (c := 72) (ci := 8) (k := 24) (t := 0) 24 (by decide +kernel : zi 148 16 = some (.getfield 168, 3)) (by decide +kernel) (by decide +kernel) (by decide +kernel) (by decide) rfl ?_
      refine Fr.ildn (by decide +kernel : zi 148 19 = some (.iload_n 1, 1)) rfl ?_
      refine Fr.if2 (q := 27) (by decide +kernel : zi 148 20 = some (.if_icmp .ne 7, 3)) (by decide +kernel) (fun g9 => ?_) (fun g9 => ?_)
      · have h := h.1 g9
        refine Fr.iconst (by decide +kernel : zi 148 27 = some (.iconst 0, 1)) (by decide) ?_
        exact Fr.retZ (by decide +kernel : zi 148 28 = some (.ireturn, 1)) (by decide +kernel) (by decide) h
      · have h := h.2 g9
        refine Fr.iconst (by decide +kernel : zi 148 23 = some (.iconst 1, 1)) (by decide) ?_
        refine Fr.goto (q := 28) (by decide +kernel : zi 148 24 = some (.goto 4, 3)) (by decide +kernel) ?_
        exact Fr.retZ (by decide +kernel : zi 148 28 = some (.ireturn, 1)) (by decide +kernel) (by decide) h
theorem e148 {xs : Nat → Int} {L : Nat} {d : Nat} {v1 : Int} {s : Pl} {Q : Option AV → Pl → Prop} (hd : 1 ≤ d) (k : Fr xs L T0 106 (d - 1) 148 0 [some (rf 73), some (it v1)] [] s Q) : Ev xs L T0 106 d 148 [rf 73, it v1] s Q := Ev.of (by decide) _ rfl hd k
-- 149 X8_isKey
theorem f149_0 {xs : Nat → Int} {L : Nat} {d : Nat} {v1 : Int} {s : Pl} {P : Int → Pl → Prop} (h : ((0 ≤ s 72 19 → P 0 s) ∧ (¬ (0 ≤ s 72 19) → ((¬ s 72 23 = 1 → P 0 s) ∧ (¬ (¬ s 72 23 = 1) → ((¬ s 72 24 = v1 → P 0 s) ∧ (¬ (¬ s 72 24 = v1) → P 1 s))))))) : Fr xs L T0 106 d 149 0 [some (rf 73), some (it v1)] [] s (qi P) := by
  refine Fr.aldn (c := 73) (by decide +kernel : zi 149 0 = some (.aload_n 0, 1)) rfl ⟨by omega, by omega⟩ ?_
  refine Fr.gI (c := 72) (ci := 8) (k := 19) (t := 0) 19 (by decide +kernel : zi 149 1 = some (.getfield 174, 3)) (by decide +kernel) (by decide +kernel) (by decide +kernel) (by decide) rfl ?_
  refine Fr.if0 (q := 27) (by decide +kernel : zi 149 4 = some (.ifCond .ge 23, 3)) (by decide +kernel) (fun g9 => ?_) (fun g9 => ?_)
  · have h := h.1 g9
    refine Fr.iconst (by decide +kernel : zi 149 27 = some (.iconst 0, 1)) (by decide) ?_
    exact Fr.retZ (by decide +kernel : zi 149 28 = some (.ireturn, 1)) (by decide +kernel) (by decide) h
  · have h := h.2 g9
    refine Fr.aldn (c := 73) (by decide +kernel : zi 149 7 = some (.aload_n 0, 1)) rfl ⟨by omega, by omega⟩ ?_
    refine Fr.gI (c := 72) (ci := 8) (k := 23) (t := 0) 23 (by decide +kernel : zi 149 8 = some (.getfield 158, 3)) (by decide +kernel) (by decide +kernel) (by decide +kernel) (by decide) rfl ?_
    refine Fr.iconst (by decide +kernel : zi 149 11 = some (.iconst 1, 1)) (by decide) ?_
    refine Fr.if2 (q := 27) (by decide +kernel : zi 149 12 = some (.if_icmp .ne 15, 3)) (by decide +kernel) (fun g9 => ?_) (fun g9 => ?_)
    · have h := h.1 g9
      refine Fr.iconst (by decide +kernel : zi 149 27 = some (.iconst 0, 1)) (by decide) ?_
      exact Fr.retZ (by decide +kernel : zi 149 28 = some (.ireturn, 1)) (by decide +kernel) (by decide) h
    · have h := h.2 g9
      refine Fr.aldn (c := 73) (by decide +kernel : zi 149 15 = some (.aload_n 0, 1)) rfl ⟨by omega, by omega⟩ ?_
      refine Fr.gI (c := 72) (ci := 8) (k := 24) (t := 0) 24 (by decide +kernel : zi 149 16 = some (.getfield 168, 3)) (by decide +kernel) (by decide +kernel) (by decide +kernel) (by decide) rfl ?_
      refine Fr.ildn (by decide +kernel : zi 149 19 = some (.iload_n 1, 1)) rfl ?_
      refine Fr.if2 (q := 27) (by decide +kernel : zi 149 20 = some (.if_icmp .ne 7, 3)) (by decide +kernel) (fun g9 => ?_) (fun g9 => ?_)
      · have h := h.1 g9
        refine Fr.iconst (by decide +kernel : zi 149 27 = some (.iconst 0, 1)) (by decide) ?_
        exact Fr.retZ (by decide +kernel : zi 149 28 = some (.ireturn, 1)) (by decide +kernel) (by decide) h
      · have h := h.2 g9
        refine Fr.iconst (by decide +kernel : zi 149 23 = some (.iconst 1, 1)) (by decide) ?_
        refine Fr.goto (q := 28) (by decide +kernel : zi 149 24 = some (.goto 4, 3)) (by decide +kernel) ?_
        exact Fr.retZ (by decide +kernel : zi 149 28 = some (.ireturn, 1)) (by decide +kernel) (by decide) h
theorem e149 {xs : Nat → Int} {L : Nat} {d : Nat} {v1 : Int} {s : Pl} {Q : Option AV → Pl → Prop} (hd : 1 ≤ d) (k : Fr xs L T0 106 (d - 1) 149 0 [some (rf 73), some (it v1)] [] s Q) : Ev xs L T0 106 d 149 [rf 73, it v1] s Q := Ev.of (by decide) _ rfl hd k
-- 150 X8_addStep
theorem f150_0 {xs : Nat → Int} {L : Nat} {d : Nat} {v1 : Int} {v2 : Int} {s : Pl} {P : Pl → Prop} (h : (0 ≤ zw (1020 + (s 72 18)) ∧ zw (1020 + (s 72 18)) < 1190) ∧ (0 ≤ zw (1020 + ((zup s 82 (zw (1020 + (s 72 18))) v1) 72 18)) ∧ zw (1020 + ((zup s 82 (zw (1020 + (s 72 18))) v1) 72 18)) < 1190) ∧ P (zup (zup (zup s 82 (zw (1020 + (s 72 18))) v1) 83 (zw (1020 + ((zup s 82 (zw (1020 + (s 72 18))) v1) 72 18))) v2) 72 18 (zw (((zup (zup s 82 (zw (1020 + (s 72 18))) v1) 83 (zw (1020 + ((zup s 82 (zw (1020 + (s 72 18))) v1) 72 18))) v2) 72 18) + 1)))) : Fr xs L T0 106 d 150 0 [some (rf 73), some (it v1), some (it v2)] [] s (qv P) := by
  refine Fr.aldn (c := 73) (by decide +kernel : zi 150 0 = some (.aload_n 0, 1)) rfl ⟨by omega, by omega⟩ ?_
  refine Fr.gR (c := 72) (c2 := 83) (ci := 8) (k := 15) 15 (by decide +kernel : zi 150 1 = some (.getfield 42, 3)) (by decide +kernel) (by decide +kernel) (by decide +kernel) (by decide) rfl (fun q => q (72, 15, 83) (by decide +kernel)) ?_
  refine Fr.sipush (by decide +kernel : zi 150 4 = some (.sipush 1020, 3)) (by decide) ?_
  refine Fr.aldn (c := 73) (by decide +kernel : zi 150 7 = some (.aload_n 0, 1)) rfl ⟨by omega, by omega⟩ ?_
  refine Fr.gI (c := 72) (ci := 8) (k := 18) (t := 0) 18 (by decide +kernel : zi 150 8 = some (.getfield 177, 3)) (by decide +kernel) (by decide +kernel) (by decide +kernel) (by decide) rfl ?_
  refine Fr.iadd (by decide +kernel : zi 150 11 = some (.iadd, 1)) ?_
  refine Fr.ildn (by decide +kernel : zi 150 12 = some (.iload_n 1, 1)) rfl ?_
  obtain ⟨⟨g0, g1⟩, h⟩ := h
  refine Fr.iast (c := 82) (N := 1190) (by decide +kernel : zi 150 13 = some (.iastore, 1)) (by decide +kernel) (by decide) g0 g1 ?_
  refine Fr.aldn (c := 73) (by decide +kernel : zi 150 14 = some (.aload_n 0, 1)) rfl ⟨by omega, by omega⟩ ?_
  refine Fr.gR (c := 72) (c2 := 84) (ci := 8) (k := 16) 16 (by decide +kernel : zi 150 15 = some (.getfield 45, 3)) (by decide +kernel) (by decide +kernel) (by decide +kernel) (by decide) rfl (fun q => q (72, 16, 84) (by decide +kernel)) ?_
  refine Fr.sipush (by decide +kernel : zi 150 18 = some (.sipush 1020, 3)) (by decide) ?_
  refine Fr.aldn (c := 73) (by decide +kernel : zi 150 21 = some (.aload_n 0, 1)) rfl ⟨by omega, by omega⟩ ?_
  refine Fr.gI (c := 72) (ci := 8) (k := 18) (t := 0) 18 (by decide +kernel : zi 150 22 = some (.getfield 177, 3)) (by decide +kernel) (by decide +kernel) (by decide +kernel) (by decide) rfl ?_
  refine Fr.iadd (by decide +kernel : zi 150 25 = some (.iadd, 1)) ?_
  refine Fr.ildn (by decide +kernel : zi 150 26 = some (.iload_n 2, 1)) rfl ?_
  obtain ⟨⟨g0, g1⟩, h⟩ := h
  refine Fr.iast (c := 83) (N := 1190) (by decide +kernel : zi 150 27 = some (.iastore, 1)) (by decide +kernel) (by decide) g0 g1 ?_
  refine Fr.aldn (c := 73) (by decide +kernel : zi 150 28 = some (.aload_n 0, 1)) rfl ⟨by omega, by omega⟩ ?_
  refine Fr.dup (by decide +kernel : zi 150 29 = some (.dup, 1)) rfl ?_
  refine Fr.gI (c := 72) (ci := 8) (k := 18) (t := 0) 18 (by decide +kernel : zi 150 30 = some (.getfield 177, 3)) (by decide +kernel) (by decide +kernel) (by decide +kernel) (by decide) rfl ?_
  refine Fr.iconst (by decide +kernel : zi 150 33 = some (.iconst 1, 1)) (by decide) ?_
  refine Fr.iadd (by decide +kernel : zi 150 34 = some (.iadd, 1)) ?_
  refine Fr.pI (c := 72) (ci := 8) (k := 18) 18 (by decide +kernel : zi 150 35 = some (.putfield 177, 3)) (by decide +kernel) (by decide +kernel) (by decide +kernel) (by decide) rfl ?_
  exact Fr.retV (by decide +kernel : zi 150 38 = some (.return_, 1)) (by decide +kernel) h
theorem e150 {xs : Nat → Int} {L : Nat} {d : Nat} {v1 : Int} {v2 : Int} {s : Pl} {Q : Option AV → Pl → Prop} (hd : 1 ≤ d) (k : Fr xs L T0 106 (d - 1) 150 0 [some (rf 73), some (it v1), some (it v2)] [] s Q) : Ev xs L T0 106 d 150 [rf 73, it v1, it v2] s Q := Ev.of (by decide) _ rfl hd k
-- 151 X8_op-ens
theorem f151_0 {xs : Nat → Int} {L : Nat} {d : Nat}  {s : Pl} {P : Int → Pl → Prop} (h : ((¬ s 72 20 = 5 → Ev xs L T0 106 d 146 [rf 73] (zup s 72 20 (zw ((s 72 20) + 1))) (qv fun s1 => P 1 s1)) ∧ (¬ (¬ s 72 20 = 5) → Ev xs L T0 106 d 147 [rf 73] s (qv fun s2 => P 0 s2)))) : Fr xs L T0 106 d 151 0 [some (rf 73)] [] s (qi P) := by
  refine Fr.aldn (c := 73) (by decide +kernel : zi 151 0 = some (.aload_n 0, 1)) rfl ⟨by omega, by omega⟩ ?_
  refine Fr.gI (c := 72) (ci := 8) (k := 20) (t := 0) 20 (by decide +kernel : zi 151 1 = some (.getfield 180, 3)) (by decide +kernel) (by decide +kernel) (by decide +kernel) (by decide) rfl ?_
  refine Fr.iconst (by decide +kernel : zi 151 4 = some (.iconst 5, 1)) (by decide) ?_
  refine Fr.if2 (q := 14) (by decide +kernel : zi 151 5 = some (.if_icmp .ne 9, 3)) (by decide +kernel) (fun g9 => ?_) (fun g9 => ?_)
  · have h := h.1 g9
    refine Fr.aldn (c := 73) (by decide +kernel : zi 151 14 = some (.aload_n 0, 1)) rfl ⟨by omega, by omega⟩ ?_
    refine Fr.dup (by decide +kernel : zi 151 15 = some (.dup, 1)) rfl ?_
    refine Fr.gI (c := 72) (ci := 8) (k := 20) (t := 0) 20 (by decide +kernel : zi 151 16 = some (.getfield 180, 3)) (by decide +kernel) (by decide +kernel) (by decide +kernel) (by decide) rfl ?_
    refine Fr.iconst (by decide +kernel : zi 151 19 = some (.iconst 1, 1)) (by decide) ?_
    refine Fr.iadd (by decide +kernel : zi 151 20 = some (.iadd, 1)) ?_
    refine Fr.pI (c := 72) (ci := 8) (k := 20) 20 (by decide +kernel : zi 151 21 = some (.putfield 180, 3)) (by decide +kernel) (by decide +kernel) (by decide +kernel) (by decide) rfl ?_
    refine Fr.aldn (c := 73) (by decide +kernel : zi 151 24 = some (.aload_n 0, 1)) rfl ⟨by omega, by omega⟩ ?_
    refine Fr.callV (y2 := 146) (na := 1) (as := [rf 73]) (rest := []) (by decide +kernel : zi 151 25 = some (.invokevirtual 186, 3)) rfl (by decide +kernel) (by decide +kernel) rfl rfl (zok_V rfl (by decide) (by decide +kernel) (by decide +kernel) (zrecv_c (c := 72) (by decide) (by decide +kernel)) rfl (Nat.le_of_ble_eq_true rfl)) h (fun s1 h => ?_)
    refine Fr.iconst (by decide +kernel : zi 151 28 = some (.iconst 1, 1)) (by decide) ?_
    exact Fr.retZ (by decide +kernel : zi 151 29 = some (.ireturn, 1)) (by decide +kernel) (by decide) h
  · have h := h.2 g9
    refine Fr.aldn (c := 73) (by decide +kernel : zi 151 8 = some (.aload_n 0, 1)) rfl ⟨by omega, by omega⟩ ?_
    refine Fr.callV (y2 := 147) (na := 1) (as := [rf 73]) (rest := []) (by decide +kernel : zi 151 9 = some (.invokevirtual 183, 3)) rfl (by decide +kernel) (by decide +kernel) rfl rfl (zok_V rfl (by decide) (by decide +kernel) (by decide +kernel) (zrecv_c (c := 72) (by decide) (by decide +kernel)) rfl (Nat.le_of_ble_eq_true rfl)) h (fun s2 h => ?_)
    refine Fr.iconst (by decide +kernel : zi 151 12 = some (.iconst 0, 1)) (by decide) ?_
    exact Fr.retZ (by decide +kernel : zi 151 13 = some (.ireturn, 1)) (by decide +kernel) (by decide) h
theorem e151 {xs : Nat → Int} {L : Nat} {d : Nat}  {s : Pl} {Q : Option AV → Pl → Prop} (hd : 1 ≤ d) (k : Fr xs L T0 106 (d - 1) 151 0 [some (rf 73)] [] s Q) : Ev xs L T0 106 d 151 [rf 73] s Q := Ev.of (by decide) _ rfl hd k
-- 152 X8_either
theorem f152_0 {xs : Nat → Int} {L : Nat} {d : Nat}  {s : Pl} {P : Pl → Prop} (h : Ev xs L T0 106 d 153 [rf 73] s (qv fun s1 => Fr xs L T0 106 d 152 4 [some (rf 73)] [] s1 (qv P))) : Fr xs L T0 106 d 152 0 [some (rf 73)] [] s (qv P) := by
  refine Fr.aldn (c := 73) (by decide +kernel : zi 152 0 = some (.aload_n 0, 1)) rfl ⟨by omega, by omega⟩ ?_
  refine Fr.callV (y2 := 153) (na := 1) (as := [rf 73]) (rest := []) (by decide +kernel : zi 152 1 = some (.invokevirtual 189, 3)) rfl (by decide +kernel) (by decide +kernel) rfl rfl (zok_V rfl (by decide) (by decide +kernel) (by decide +kernel) (zrecv_c (c := 72) (by decide) (by decide +kernel)) rfl (Nat.le_of_ble_eq_true rfl)) h (fun s1 h => ?_)
  exact h
theorem e152 {xs : Nat → Int} {L : Nat} {d : Nat}  {s : Pl} {Q : Option AV → Pl → Prop} (hd : 1 ≤ d) (k : Fr xs L T0 106 (d - 1) 152 0 [some (rf 73)] [] s Q) : Ev xs L T0 106 d 152 [rf 73] s Q := Ev.of (by decide) _ rfl hd k
theorem f152_4 {xs : Nat → Int} {L : Nat} {d : Nat}  {s : Pl} {P : Pl → Prop} (h : Ev xs L T0 106 d 149 [rf 73, it 13] s (qi fun r2 s1 => ((r2 = 0 → P s1) ∧ (¬ (r2 = 0) → Ev xs L T0 106 d 146 [rf 73] s1 (qv fun s3 => Ev xs L T0 106 d 153 [rf 73] s3 (qv fun s4 => Ev xs L T0 106 d 150 [rf 73, it 5, it 0] s4 (qv fun s5 => Fr xs L T0 106 d 152 4 [some (rf 73)] [] s5 (qv P)))))))) : Fr xs L T0 106 d 152 4 [some (rf 73)] [] s (qv P) := by
  refine Fr.aldn (c := 73) (by decide +kernel : zi 152 4 = some (.aload_n 0, 1)) rfl ⟨by omega, by omega⟩ ?_
  refine Fr.bipush (by decide +kernel : zi 152 5 = some (.bipush 13, 2)) (by decide) ?_
  refine Fr.callI (y2 := 149) (na := 2) (as := [rf 73, it 13]) (rest := []) (by decide +kernel : zi 152 7 = some (.invokevirtual 192, 3)) rfl (by decide +kernel) (by decide +kernel) rfl rfl (zok_V rfl (by decide) (by decide +kernel) (by decide +kernel) (zrecv_c (c := 72) (by decide) (by decide +kernel)) rfl (Nat.le_of_ble_eq_true rfl)) h (fun r2 s1 h => ?_)
  refine Fr.if0 (q := 30) (by decide +kernel : zi 152 10 = some (.ifCond .eq 20, 3)) (by decide +kernel) (fun g9 => ?_) (fun g9 => ?_)
  · have h := h.1 g9
    exact Fr.retV (by decide +kernel : zi 152 30 = some (.return_, 1)) (by decide +kernel) h
  · have h := h.2 g9
    refine Fr.aldn (c := 73) (by decide +kernel : zi 152 13 = some (.aload_n 0, 1)) rfl ⟨by omega, by omega⟩ ?_
    refine Fr.callV (y2 := 146) (na := 1) (as := [rf 73]) (rest := []) (by decide +kernel : zi 152 14 = some (.invokevirtual 186, 3)) rfl (by decide +kernel) (by decide +kernel) rfl rfl (zok_V rfl (by decide) (by decide +kernel) (by decide +kernel) (zrecv_c (c := 72) (by decide) (by decide +kernel)) rfl (Nat.le_of_ble_eq_true rfl)) h (fun s3 h => ?_)
    refine Fr.aldn (c := 73) (by decide +kernel : zi 152 17 = some (.aload_n 0, 1)) rfl ⟨by omega, by omega⟩ ?_
    refine Fr.callV (y2 := 153) (na := 1) (as := [rf 73]) (rest := []) (by decide +kernel : zi 152 18 = some (.invokevirtual 189, 3)) rfl (by decide +kernel) (by decide +kernel) rfl rfl (zok_V rfl (by decide) (by decide +kernel) (by decide +kernel) (zrecv_c (c := 72) (by decide) (by decide +kernel)) rfl (Nat.le_of_ble_eq_true rfl)) h (fun s4 h => ?_)
    refine Fr.aldn (c := 73) (by decide +kernel : zi 152 21 = some (.aload_n 0, 1)) rfl ⟨by omega, by omega⟩ ?_
    refine Fr.iconst (by decide +kernel : zi 152 22 = some (.iconst 5, 1)) (by decide) ?_
    refine Fr.iconst (by decide +kernel : zi 152 23 = some (.iconst 0, 1)) (by decide) ?_
    refine Fr.callV (y2 := 150) (na := 3) (as := [rf 73, it 5, it 0]) (rest := []) (by decide +kernel : zi 152 24 = some (.invokevirtual 195, 3)) rfl (by decide +kernel) (by decide +kernel) rfl rfl (zok_V rfl (by decide) (by decide +kernel) (by decide +kernel) (zrecv_c (c := 72) (by decide) (by decide +kernel)) rfl (Nat.le_of_ble_eq_true rfl)) h (fun s5 h => ?_)
    refine Fr.goto (q := 4) (by decide +kernel : zi 152 27 = some (.goto (-23), 3)) (by decide +kernel) ?_
    exact h
-- 153 X8_allOf
theorem f153_0 {xs : Nat → Int} {L : Nat} {d : Nat}  {s : Pl} {P : Pl → Prop} (h : Ev xs L T0 106 d 154 [rf 73] s (qv fun s1 => Fr xs L T0 106 d 153 4 [some (rf 73)] [] s1 (qv P))) : Fr xs L T0 106 d 153 0 [some (rf 73)] [] s (qv P) := by
  refine Fr.aldn (c := 73) (by decide +kernel : zi 153 0 = some (.aload_n 0, 1)) rfl ⟨by omega, by omega⟩ ?_
  refine Fr.callV (y2 := 154) (na := 1) (as := [rf 73]) (rest := []) (by decide +kernel : zi 153 1 = some (.invokevirtual 199, 3)) rfl (by decide +kernel) (by decide +kernel) rfl rfl (zok_V rfl (by decide) (by decide +kernel) (by decide +kernel) (zrecv_c (c := 72) (by decide) (by decide +kernel)) rfl (Nat.le_of_ble_eq_true rfl)) h (fun s1 h => ?_)
  exact h
theorem e153 {xs : Nat → Int} {L : Nat} {d : Nat}  {s : Pl} {Q : Option AV → Pl → Prop} (hd : 1 ≤ d) (k : Fr xs L T0 106 (d - 1) 153 0 [some (rf 73)] [] s Q) : Ev xs L T0 106 d 153 [rf 73] s Q := Ev.of (by decide) _ rfl hd k
theorem f153_4 {xs : Nat → Int} {L : Nat} {d : Nat}  {s : Pl} {P : Pl → Prop} (h : Ev xs L T0 106 d 149 [rf 73, it 14] s (qi fun r2 s1 => ((r2 = 0 → P s1) ∧ (¬ (r2 = 0) → Ev xs L T0 106 d 146 [rf 73] s1 (qv fun s3 => Ev xs L T0 106 d 154 [rf 73] s3 (qv fun s4 => Ev xs L T0 106 d 150 [rf 73, it 6, it 0] s4 (qv fun s5 => Fr xs L T0 106 d 153 4 [some (rf 73)] [] s5 (qv P)))))))) : Fr xs L T0 106 d 153 4 [some (rf 73)] [] s (qv P) := by
  refine Fr.aldn (c := 73) (by decide +kernel : zi 153 4 = some (.aload_n 0, 1)) rfl ⟨by omega, by omega⟩ ?_
  refine Fr.bipush (by decide +kernel : zi 153 5 = some (.bipush 14, 2)) (by decide) ?_
  refine Fr.callI (y2 := 149) (na := 2) (as := [rf 73, it 14]) (rest := []) (by decide +kernel : zi 153 7 = some (.invokevirtual 192, 3)) rfl (by decide +kernel) (by decide +kernel) rfl rfl (zok_V rfl (by decide) (by decide +kernel) (by decide +kernel) (zrecv_c (c := 72) (by decide) (by decide +kernel)) rfl (Nat.le_of_ble_eq_true rfl)) h (fun r2 s1 h => ?_)
  refine Fr.if0 (q := 31) (by decide +kernel : zi 153 10 = some (.ifCond .eq 21, 3)) (by decide +kernel) (fun g9 => ?_) (fun g9 => ?_)
  · have h := h.1 g9
    exact Fr.retV (by decide +kernel : zi 153 31 = some (.return_, 1)) (by decide +kernel) h
  · have h := h.2 g9
    refine Fr.aldn (c := 73) (by decide +kernel : zi 153 13 = some (.aload_n 0, 1)) rfl ⟨by omega, by omega⟩ ?_
    refine Fr.callV (y2 := 146) (na := 1) (as := [rf 73]) (rest := []) (by decide +kernel : zi 153 14 = some (.invokevirtual 186, 3)) rfl (by decide +kernel) (by decide +kernel) rfl rfl (zok_V rfl (by decide) (by decide +kernel) (by decide +kernel) (zrecv_c (c := 72) (by decide) (by decide +kernel)) rfl (Nat.le_of_ble_eq_true rfl)) h (fun s3 h => ?_)
    refine Fr.aldn (c := 73) (by decide +kernel : zi 153 17 = some (.aload_n 0, 1)) rfl ⟨by omega, by omega⟩ ?_
    refine Fr.callV (y2 := 154) (na := 1) (as := [rf 73]) (rest := []) (by decide +kernel : zi 153 18 = some (.invokevirtual 199, 3)) rfl (by decide +kernel) (by decide +kernel) rfl rfl (zok_V rfl (by decide) (by decide +kernel) (by decide +kernel) (zrecv_c (c := 72) (by decide) (by decide +kernel)) rfl (Nat.le_of_ble_eq_true rfl)) h (fun s4 h => ?_)
    refine Fr.aldn (c := 73) (by decide +kernel : zi 153 21 = some (.aload_n 0, 1)) rfl ⟨by omega, by omega⟩ ?_
    refine Fr.bipush (by decide +kernel : zi 153 22 = some (.bipush 6, 2)) (by decide) ?_
    refine Fr.iconst (by decide +kernel : zi 153 24 = some (.iconst 0, 1)) (by decide) ?_
    refine Fr.callV (y2 := 150) (na := 3) (as := [rf 73, it 6, it 0]) (rest := []) (by decide +kernel : zi 153 25 = some (.invokevirtual 195, 3)) rfl (by decide +kernel) (by decide +kernel) rfl rfl (zok_V rfl (by decide) (by decide +kernel) (by decide +kernel) (zrecv_c (c := 72) (by decide) (by decide +kernel)) rfl (Nat.le_of_ble_eq_true rfl)) h (fun s5 h => ?_)
    refine Fr.goto (q := 4) (by decide +kernel : zi 153 28 = some (.goto (-24), 3)) (by decide +kernel) ?_
    exact h
-- 154 X8_denied
theorem f154_0 {xs : Nat → Int} {L : Nat} {d : Nat}  {s : Pl} {P : Pl → Prop} (h : Ev xs L T0 106 d 149 [rf 73, it 15] s (qi fun r2 s1 => ((r2 = 0 → Ev xs L T0 106 d 155 [rf 73] s1 (qv fun s3 => Ev xs L T0 106 d 148 [rf 73, it 60] s3 (qi fun r5 s4 => ((¬ r5 = 0 → Fr xs L T0 106 d 154 61 [some (rf 73), none] [] s4 (qv P)) ∧ (¬ (¬ r5 = 0) → Ev xs L T0 106 d 148 [rf 73, it 61] s4 (qi fun r7 s6 => ((¬ r7 = 0 → Fr xs L T0 106 d 154 61 [some (rf 73), none] [] s6 (qv P)) ∧ (¬ (¬ r7 = 0) → P s6)))))))) ∧ (¬ (r2 = 0) → Ev xs L T0 106 d 151 [rf 73] s1 (qi fun r9 s8 => ((¬ r9 = 0 → Ev xs L T0 106 d 154 [rf 73] s8 (qv fun s10 => Ev xs L T0 106 d 150 [rf 73, it 3, it 0] (zup s10 72 20 (zw ((s10 72 20) - 1))) (qv fun s11 => P s11))) ∧ (¬ (¬ r9 = 0) → P s8))))))) : Fr xs L T0 106 d 154 0 [some (rf 73), none] [] s (qv P) := by
  refine Fr.aldn (c := 73) (by decide +kernel : zi 154 0 = some (.aload_n 0, 1)) rfl ⟨by omega, by omega⟩ ?_
  refine Fr.bipush (by decide +kernel : zi 154 1 = some (.bipush 15, 2)) (by decide) ?_
  refine Fr.callI (y2 := 149) (na := 2) (as := [rf 73, it 15]) (rest := []) (by decide +kernel : zi 154 3 = some (.invokevirtual 192, 3)) rfl (by decide +kernel) (by decide +kernel) rfl rfl (zok_V rfl (by decide) (by decide +kernel) (by decide +kernel) (zrecv_c (c := 72) (by decide) (by decide +kernel)) rfl (Nat.le_of_ble_eq_true rfl)) h (fun r2 s1 h => ?_)
  refine Fr.if0 (q := 38) (by decide +kernel : zi 154 6 = some (.ifCond .eq 32, 3)) (by decide +kernel) (fun g9 => ?_) (fun g9 => ?_)
  · have h := h.1 g9
    refine Fr.aldn (c := 73) (by decide +kernel : zi 154 38 = some (.aload_n 0, 1)) rfl ⟨by omega, by omega⟩ ?_
    refine Fr.callV (y2 := 155) (na := 1) (as := [rf 73]) (rest := []) (by decide +kernel : zi 154 39 = some (.invokevirtual 206, 3)) rfl (by decide +kernel) (by decide +kernel) rfl rfl (zok_V rfl (by decide) (by decide +kernel) (by decide +kernel) (zrecv_c (c := 72) (by decide) (by decide +kernel)) rfl (Nat.le_of_ble_eq_true rfl)) h (fun s3 h => ?_)
    refine Fr.aldn (c := 73) (by decide +kernel : zi 154 42 = some (.aload_n 0, 1)) rfl ⟨by omega, by omega⟩ ?_
    refine Fr.bipush (by decide +kernel : zi 154 43 = some (.bipush 60, 2)) (by decide) ?_
    refine Fr.callI (y2 := 148) (na := 2) (as := [rf 73, it 60]) (rest := []) (by decide +kernel : zi 154 45 = some (.invokevirtual 209, 3)) rfl (by decide +kernel) (by decide +kernel) rfl rfl (zok_V rfl (by decide) (by decide +kernel) (by decide +kernel) (zrecv_c (c := 72) (by decide) (by decide +kernel)) rfl (Nat.le_of_ble_eq_true rfl)) h (fun r5 s4 h => ?_)
    refine Fr.if0 (q := 61) (by decide +kernel : zi 154 48 = some (.ifCond .ne 13, 3)) (by decide +kernel) (fun g9 => ?_) (fun g9 => ?_)
    · have h := h.1 g9
      exact h
    · have h := h.2 g9
      refine Fr.aldn (c := 73) (by decide +kernel : zi 154 51 = some (.aload_n 0, 1)) rfl ⟨by omega, by omega⟩ ?_
      refine Fr.bipush (by decide +kernel : zi 154 52 = some (.bipush 61, 2)) (by decide) ?_
      refine Fr.callI (y2 := 148) (na := 2) (as := [rf 73, it 61]) (rest := []) (by decide +kernel : zi 154 54 = some (.invokevirtual 209, 3)) rfl (by decide +kernel) (by decide +kernel) rfl rfl (zok_V rfl (by decide) (by decide +kernel) (by decide +kernel) (zrecv_c (c := 72) (by decide) (by decide +kernel)) rfl (Nat.le_of_ble_eq_true rfl)) h (fun r7 s6 h => ?_)
      refine Fr.if0 (q := 61) (by decide +kernel : zi 154 57 = some (.ifCond .ne 4, 3)) (by decide +kernel) (fun g9 => ?_) (fun g9 => ?_)
      · have h := h.1 g9
        exact h
      · have h := h.2 g9
        exact Fr.retV (by decide +kernel : zi 154 60 = some (.return_, 1)) (by decide +kernel) h
  · have h := h.2 g9
    refine Fr.aldn (c := 73) (by decide +kernel : zi 154 9 = some (.aload_n 0, 1)) rfl ⟨by omega, by omega⟩ ?_
    refine Fr.callI (y2 := 151) (na := 1) (as := [rf 73]) (rest := []) (by decide +kernel : zi 154 10 = some (.invokevirtual 202, 3)) rfl (by decide +kernel) (by decide +kernel) rfl rfl (zok_V rfl (by decide) (by decide +kernel) (by decide +kernel) (zrecv_c (c := 72) (by decide) (by decide +kernel)) rfl (Nat.le_of_ble_eq_true rfl)) h (fun r9 s8 h => ?_)
    refine Fr.if0 (q := 17) (by decide +kernel : zi 154 13 = some (.ifCond .ne 4, 3)) (by decide +kernel) (fun g9 => ?_) (fun g9 => ?_)
    · have h := h.1 g9
      refine Fr.aldn (c := 73) (by decide +kernel : zi 154 17 = some (.aload_n 0, 1)) rfl ⟨by omega, by omega⟩ ?_
      refine Fr.callV (y2 := 154) (na := 1) (as := [rf 73]) (rest := []) (by decide +kernel : zi 154 18 = some (.invokevirtual 199, 3)) rfl (by decide +kernel) (by decide +kernel) rfl rfl (zok_V rfl (by decide) (by decide +kernel) (by decide +kernel) (zrecv_c (c := 72) (by decide) (by decide +kernel)) rfl (Nat.le_of_ble_eq_true rfl)) h (fun s10 h => ?_)
      refine Fr.aldn (c := 73) (by decide +kernel : zi 154 21 = some (.aload_n 0, 1)) rfl ⟨by omega, by omega⟩ ?_
      refine Fr.dup (by decide +kernel : zi 154 22 = some (.dup, 1)) rfl ?_
      refine Fr.gI (c := 72) (ci := 8) (k := 20) (t := 0) 20 (by decide +kernel : zi 154 23 = some (.getfield 180, 3)) (by decide +kernel) (by decide +kernel) (by decide +kernel) (by decide) rfl ?_
      refine Fr.iconst (by decide +kernel : zi 154 26 = some (.iconst 1, 1)) (by decide) ?_
      refine Fr.isub (by decide +kernel : zi 154 27 = some (.isub, 1)) ?_
      refine Fr.pI (c := 72) (ci := 8) (k := 20) 20 (by decide +kernel : zi 154 28 = some (.putfield 180, 3)) (by decide +kernel) (by decide +kernel) (by decide +kernel) (by decide) rfl ?_
      refine Fr.aldn (c := 73) (by decide +kernel : zi 154 31 = some (.aload_n 0, 1)) rfl ⟨by omega, by omega⟩ ?_
      refine Fr.iconst (by decide +kernel : zi 154 32 = some (.iconst 3, 1)) (by decide) ?_
      refine Fr.iconst (by decide +kernel : zi 154 33 = some (.iconst 0, 1)) (by decide) ?_
      refine Fr.callV (y2 := 150) (na := 3) (as := [rf 73, it 3, it 0]) (rest := []) (by decide +kernel : zi 154 34 = some (.invokevirtual 195, 3)) rfl (by decide +kernel) (by decide +kernel) rfl rfl (zok_V rfl (by decide) (by decide +kernel) (by decide +kernel) (zrecv_c (c := 72) (by decide) (by decide +kernel)) rfl (Nat.le_of_ble_eq_true rfl)) h (fun s11 h => ?_)
      exact Fr.retV (by decide +kernel : zi 154 37 = some (.return_, 1)) (by decide +kernel) h
    · have h := h.2 g9
      exact Fr.retV (by decide +kernel : zi 154 16 = some (.return_, 1)) (by decide +kernel) h
theorem e154 {xs : Nat → Int} {L : Nat} {d : Nat}  {s : Pl} {Q : Option AV → Pl → Prop} (hd : 1 ≤ d) (k : Fr xs L T0 106 (d - 1) 154 0 [some (rf 73), none] [] s Q) : Ev xs L T0 106 d 154 [rf 73] s Q := Ev.of (by decide) _ rfl hd k
theorem f154_61 {xs : Nat → Int} {L : Nat} {d : Nat}  {s : Pl} {P : Pl → Prop} (h : Ev xs L T0 106 d 146 [rf 73] s (qv fun s1 => Ev xs L T0 106 d 155 [rf 73] s1 (qv fun s2 => Ev xs L T0 106 d 150 [rf 73, it (s 72 24), it 0] s2 (qv fun s3 => P s3)))) : Fr xs L T0 106 d 154 61 [some (rf 73), none] [] s (qv P) := by
  refine Fr.aldn (c := 73) (by decide +kernel : zi 154 61 = some (.aload_n 0, 1)) rfl ⟨by omega, by omega⟩ ?_
  refine Fr.gI (c := 72) (ci := 8) (k := 24) (t := 0) 24 (by decide +kernel : zi 154 62 = some (.getfield 168, 3)) (by decide +kernel) (by decide +kernel) (by decide +kernel) (by decide) rfl ?_
  refine Fr.istn (lv2 := [some (rf 73), some (it (s 72 24))]) (by decide +kernel : zi 154 65 = some (.istore_n 1, 1)) (Nat.le_of_ble_eq_true rfl) rfl ?_
  refine Fr.aldn (c := 73) (by decide +kernel : zi 154 66 = some (.aload_n 0, 1)) rfl ⟨by omega, by omega⟩ ?_
  refine Fr.callV (y2 := 146) (na := 1) (as := [rf 73]) (rest := []) (by decide +kernel : zi 154 67 = some (.invokevirtual 186, 3)) rfl (by decide +kernel) (by decide +kernel) rfl rfl (zok_V rfl (by decide) (by decide +kernel) (by decide +kernel) (zrecv_c (c := 72) (by decide) (by decide +kernel)) rfl (Nat.le_of_ble_eq_true rfl)) h (fun s1 h => ?_)
  refine Fr.aldn (c := 73) (by decide +kernel : zi 154 70 = some (.aload_n 0, 1)) rfl ⟨by omega, by omega⟩ ?_
  refine Fr.callV (y2 := 155) (na := 1) (as := [rf 73]) (rest := []) (by decide +kernel : zi 154 71 = some (.invokevirtual 206, 3)) rfl (by decide +kernel) (by decide +kernel) rfl rfl (zok_V rfl (by decide) (by decide +kernel) (by decide +kernel) (zrecv_c (c := 72) (by decide) (by decide +kernel)) rfl (Nat.le_of_ble_eq_true rfl)) h (fun s2 h => ?_)
  refine Fr.aldn (c := 73) (by decide +kernel : zi 154 74 = some (.aload_n 0, 1)) rfl ⟨by omega, by omega⟩ ?_
  refine Fr.ildn (by decide +kernel : zi 154 75 = some (.iload_n 1, 1)) rfl ?_
  refine Fr.iconst (by decide +kernel : zi 154 76 = some (.iconst 0, 1)) (by decide) ?_
  refine Fr.callV (y2 := 150) (na := 3) (as := [rf 73, it (s 72 24), it 0]) (rest := []) (by decide +kernel : zi 154 77 = some (.invokevirtual 195, 3)) rfl (by decide +kernel) (by decide +kernel) rfl rfl (zok_V rfl (by decide) (by decide +kernel) (by decide +kernel) (zrecv_c (c := 72) (by decide) (by decide +kernel)) rfl (Nat.le_of_ble_eq_true rfl)) h (fun s3 h => ?_)
  exact Fr.retV (by decide +kernel : zi 154 80 = some (.return_, 1)) (by decide +kernel) h
-- 155 X8_sum
theorem f155_0 {xs : Nat → Int} {L : Nat} {d : Nat}  {s : Pl} {P : Pl → Prop} (h : Ev xs L T0 106 d 156 [rf 73] s (qv fun s1 => Fr xs L T0 106 d 155 4 [some (rf 73), none] [] s1 (qv P))) : Fr xs L T0 106 d 155 0 [some (rf 73), none] [] s (qv P) := by
  refine Fr.aldn (c := 73) (by decide +kernel : zi 155 0 = some (.aload_n 0, 1)) rfl ⟨by omega, by omega⟩ ?_
  refine Fr.callV (y2 := 156) (na := 1) (as := [rf 73]) (rest := []) (by decide +kernel : zi 155 1 = some (.invokevirtual 212, 3)) rfl (by decide +kernel) (by decide +kernel) rfl rfl (zok_V rfl (by decide) (by decide +kernel) (by decide +kernel) (zrecv_c (c := 72) (by decide) (by decide +kernel)) rfl (Nat.le_of_ble_eq_true rfl)) h (fun s1 h => ?_)
  exact h
theorem e155 {xs : Nat → Int} {L : Nat} {d : Nat}  {s : Pl} {Q : Option AV → Pl → Prop} (hd : 1 ≤ d) (k : Fr xs L T0 106 (d - 1) 155 0 [some (rf 73), none] [] s Q) : Ev xs L T0 106 d 155 [rf 73] s Q := Ev.of (by decide) _ rfl hd k
theorem f155_4 {xs : Nat → Int} {L : Nat} {d : Nat} {w1 : Option AV} {s : Pl} {P : Pl → Prop} (h : Ev xs L T0 106 d 148 [rf 73, it 43] s (qi fun r2 s1 => ((¬ r2 = 0 → Fr xs L T0 106 d 155 22 [some (rf 73), w1] [] s1 (qv P)) ∧ (¬ (¬ r2 = 0) → Ev xs L T0 106 d 148 [rf 73, it 45] s1 (qi fun r4 s3 => ((r4 = 0 → P s3) ∧ (¬ (r4 = 0) → Fr xs L T0 106 d 155 22 [some (rf 73), w1] [] s3 (qv P)))))))) : Fr xs L T0 106 d 155 4 [some (rf 73), w1] [] s (qv P) := by
  refine Fr.aldn (c := 73) (by decide +kernel : zi 155 4 = some (.aload_n 0, 1)) rfl ⟨by omega, by omega⟩ ?_
  refine Fr.bipush (by decide +kernel : zi 155 5 = some (.bipush 43, 2)) (by decide) ?_
  refine Fr.callI (y2 := 148) (na := 2) (as := [rf 73, it 43]) (rest := []) (by decide +kernel : zi 155 7 = some (.invokevirtual 209, 3)) rfl (by decide +kernel) (by decide +kernel) rfl rfl (zok_V rfl (by decide) (by decide +kernel) (by decide +kernel) (zrecv_c (c := 72) (by decide) (by decide +kernel)) rfl (Nat.le_of_ble_eq_true rfl)) h (fun r2 s1 h => ?_)
  refine Fr.if0 (q := 22) (by decide +kernel : zi 155 10 = some (.ifCond .ne 12, 3)) (by decide +kernel) (fun g9 => ?_) (fun g9 => ?_)
  · have h := h.1 g9
    exact h
  · have h := h.2 g9
    refine Fr.aldn (c := 73) (by decide +kernel : zi 155 13 = some (.aload_n 0, 1)) rfl ⟨by omega, by omega⟩ ?_
    refine Fr.bipush (by decide +kernel : zi 155 14 = some (.bipush 45, 2)) (by decide) ?_
    refine Fr.callI (y2 := 148) (na := 2) (as := [rf 73, it 45]) (rest := []) (by decide +kernel : zi 155 16 = some (.invokevirtual 209, 3)) rfl (by decide +kernel) (by decide +kernel) rfl rfl (zok_V rfl (by decide) (by decide +kernel) (by decide +kernel) (zrecv_c (c := 72) (by decide) (by decide +kernel)) rfl (Nat.le_of_ble_eq_true rfl)) h (fun r4 s3 h => ?_)
    refine Fr.if0 (q := 44) (by decide +kernel : zi 155 19 = some (.ifCond .eq 25, 3)) (by decide +kernel) (fun g9 => ?_) (fun g9 => ?_)
    · have h := h.1 g9
      exact Fr.retV (by decide +kernel : zi 155 44 = some (.return_, 1)) (by decide +kernel) h
    · have h := h.2 g9
      exact h
theorem f155_22 {xs : Nat → Int} {L : Nat} {d : Nat} {w1 : Option AV} {s : Pl} {P : Pl → Prop} (h : Ev xs L T0 106 d 146 [rf 73] s (qv fun s1 => Ev xs L T0 106 d 156 [rf 73] s1 (qv fun s2 => Ev xs L T0 106 d 150 [rf 73, it (s 72 24), it 0] s2 (qv fun s3 => Fr xs L T0 106 d 155 4 [some (rf 73), some (it (s 72 24))] [] s3 (qv P))))) : Fr xs L T0 106 d 155 22 [some (rf 73), w1] [] s (qv P) := by
  refine Fr.aldn (c := 73) (by decide +kernel : zi 155 22 = some (.aload_n 0, 1)) rfl ⟨by omega, by omega⟩ ?_
  refine Fr.gI (c := 72) (ci := 8) (k := 24) (t := 0) 24 (by decide +kernel : zi 155 23 = some (.getfield 168, 3)) (by decide +kernel) (by decide +kernel) (by decide +kernel) (by decide) rfl ?_
  refine Fr.istn (lv2 := [some (rf 73), some (it (s 72 24))]) (by decide +kernel : zi 155 26 = some (.istore_n 1, 1)) (Nat.le_of_ble_eq_true rfl) rfl ?_
  refine Fr.aldn (c := 73) (by decide +kernel : zi 155 27 = some (.aload_n 0, 1)) rfl ⟨by omega, by omega⟩ ?_
  refine Fr.callV (y2 := 146) (na := 1) (as := [rf 73]) (rest := []) (by decide +kernel : zi 155 28 = some (.invokevirtual 186, 3)) rfl (by decide +kernel) (by decide +kernel) rfl rfl (zok_V rfl (by decide) (by decide +kernel) (by decide +kernel) (zrecv_c (c := 72) (by decide) (by decide +kernel)) rfl (Nat.le_of_ble_eq_true rfl)) h (fun s1 h => ?_)
  refine Fr.aldn (c := 73) (by decide +kernel : zi 155 31 = some (.aload_n 0, 1)) rfl ⟨by omega, by omega⟩ ?_
  refine Fr.callV (y2 := 156) (na := 1) (as := [rf 73]) (rest := []) (by decide +kernel : zi 155 32 = some (.invokevirtual 212, 3)) rfl (by decide +kernel) (by decide +kernel) rfl rfl (zok_V rfl (by decide) (by decide +kernel) (by decide +kernel) (zrecv_c (c := 72) (by decide) (by decide +kernel)) rfl (Nat.le_of_ble_eq_true rfl)) h (fun s2 h => ?_)
  refine Fr.aldn (c := 73) (by decide +kernel : zi 155 35 = some (.aload_n 0, 1)) rfl ⟨by omega, by omega⟩ ?_
  refine Fr.ildn (by decide +kernel : zi 155 36 = some (.iload_n 1, 1)) rfl ?_
  refine Fr.iconst (by decide +kernel : zi 155 37 = some (.iconst 0, 1)) (by decide) ?_
  refine Fr.callV (y2 := 150) (na := 3) (as := [rf 73, it (s 72 24), it 0]) (rest := []) (by decide +kernel : zi 155 38 = some (.invokevirtual 195, 3)) rfl (by decide +kernel) (by decide +kernel) rfl rfl (zok_V rfl (by decide) (by decide +kernel) (by decide +kernel) (zrecv_c (c := 72) (by decide) (by decide +kernel)) rfl (Nat.le_of_ble_eq_true rfl)) h (fun s3 h => ?_)
  refine Fr.goto (q := 4) (by decide +kernel : zi 155 41 = some (.goto (-37), 3)) (by decide +kernel) ?_
  exact h
-- 156 X8_term
theorem f156_0 {xs : Nat → Int} {L : Nat} {d : Nat}  {s : Pl} {P : Pl → Prop} (h : Ev xs L T0 106 d 157 [rf 73] s (qv fun s1 => Fr xs L T0 106 d 156 4 [some (rf 73)] [] s1 (qv P))) : Fr xs L T0 106 d 156 0 [some (rf 73)] [] s (qv P) := by
  refine Fr.aldn (c := 73) (by decide +kernel : zi 156 0 = some (.aload_n 0, 1)) rfl ⟨by omega, by omega⟩ ?_
  refine Fr.callV (y2 := 157) (na := 1) (as := [rf 73]) (rest := []) (by decide +kernel : zi 156 1 = some (.invokevirtual 215, 3)) rfl (by decide +kernel) (by decide +kernel) rfl rfl (zok_V rfl (by decide) (by decide +kernel) (by decide +kernel) (zrecv_c (c := 72) (by decide) (by decide +kernel)) rfl (Nat.le_of_ble_eq_true rfl)) h (fun s1 h => ?_)
  exact h
theorem e156 {xs : Nat → Int} {L : Nat} {d : Nat}  {s : Pl} {Q : Option AV → Pl → Prop} (hd : 1 ≤ d) (k : Fr xs L T0 106 (d - 1) 156 0 [some (rf 73)] [] s Q) : Ev xs L T0 106 d 156 [rf 73] s Q := Ev.of (by decide) _ rfl hd k
theorem f156_4 {xs : Nat → Int} {L : Nat} {d : Nat}  {s : Pl} {P : Pl → Prop} (h : Ev xs L T0 106 d 148 [rf 73, it 42] s (qi fun r2 s1 => ((r2 = 0 → P s1) ∧ (¬ (r2 = 0) → Ev xs L T0 106 d 146 [rf 73] s1 (qv fun s3 => Ev xs L T0 106 d 157 [rf 73] s3 (qv fun s4 => Ev xs L T0 106 d 150 [rf 73, it 42, it 0] s4 (qv fun s5 => Fr xs L T0 106 d 156 4 [some (rf 73)] [] s5 (qv P)))))))) : Fr xs L T0 106 d 156 4 [some (rf 73)] [] s (qv P) := by
  refine Fr.aldn (c := 73) (by decide +kernel : zi 156 4 = some (.aload_n 0, 1)) rfl ⟨by omega, by omega⟩ ?_
  refine Fr.bipush (by decide +kernel : zi 156 5 = some (.bipush 42, 2)) (by decide) ?_
  refine Fr.callI (y2 := 148) (na := 2) (as := [rf 73, it 42]) (rest := []) (by decide +kernel : zi 156 7 = some (.invokevirtual 209, 3)) rfl (by decide +kernel) (by decide +kernel) rfl rfl (zok_V rfl (by decide) (by decide +kernel) (by decide +kernel) (zrecv_c (c := 72) (by decide) (by decide +kernel)) rfl (Nat.le_of_ble_eq_true rfl)) h (fun r2 s1 h => ?_)
  refine Fr.if0 (q := 31) (by decide +kernel : zi 156 10 = some (.ifCond .eq 21, 3)) (by decide +kernel) (fun g9 => ?_) (fun g9 => ?_)
  · have h := h.1 g9
    exact Fr.retV (by decide +kernel : zi 156 31 = some (.return_, 1)) (by decide +kernel) h
  · have h := h.2 g9
    refine Fr.aldn (c := 73) (by decide +kernel : zi 156 13 = some (.aload_n 0, 1)) rfl ⟨by omega, by omega⟩ ?_
    refine Fr.callV (y2 := 146) (na := 1) (as := [rf 73]) (rest := []) (by decide +kernel : zi 156 14 = some (.invokevirtual 186, 3)) rfl (by decide +kernel) (by decide +kernel) rfl rfl (zok_V rfl (by decide) (by decide +kernel) (by decide +kernel) (zrecv_c (c := 72) (by decide) (by decide +kernel)) rfl (Nat.le_of_ble_eq_true rfl)) h (fun s3 h => ?_)
    refine Fr.aldn (c := 73) (by decide +kernel : zi 156 17 = some (.aload_n 0, 1)) rfl ⟨by omega, by omega⟩ ?_
    refine Fr.callV (y2 := 157) (na := 1) (as := [rf 73]) (rest := []) (by decide +kernel : zi 156 18 = some (.invokevirtual 215, 3)) rfl (by decide +kernel) (by decide +kernel) rfl rfl (zok_V rfl (by decide) (by decide +kernel) (by decide +kernel) (zrecv_c (c := 72) (by decide) (by decide +kernel)) rfl (Nat.le_of_ble_eq_true rfl)) h (fun s4 h => ?_)
    refine Fr.aldn (c := 73) (by decide +kernel : zi 156 21 = some (.aload_n 0, 1)) rfl ⟨by omega, by omega⟩ ?_
    refine Fr.bipush (by decide +kernel : zi 156 22 = some (.bipush 42, 2)) (by decide) ?_
    refine Fr.iconst (by decide +kernel : zi 156 24 = some (.iconst 0, 1)) (by decide) ?_
    refine Fr.callV (y2 := 150) (na := 3) (as := [rf 73, it 42, it 0]) (rest := []) (by decide +kernel : zi 156 25 = some (.invokevirtual 195, 3)) rfl (by decide +kernel) (by decide +kernel) rfl rfl (zok_V rfl (by decide) (by decide +kernel) (by decide +kernel) (zrecv_c (c := 72) (by decide) (by decide +kernel)) rfl (Nat.le_of_ble_eq_true rfl)) h (fun s5 h => ?_)
    refine Fr.goto (q := 4) (by decide +kernel : zi 156 28 = some (.goto (-24), 3)) (by decide +kernel) ?_
    exact h
-- 157 X8_one
theorem f157_0 {xs : Nat → Int} {L : Nat} {d : Nat}  {s : Pl} {P : Pl → Prop} (h : ((s 72 19 < 0 → ((¬ s 72 23 = 2 → ((¬ s 72 23 = 1 → Fr xs L T0 106 d 157 65 [some (rf 73)] [] s (qv P)) ∧ (¬ (¬ s 72 23 = 1) → ((6 ≤ s 72 24 → Fr xs L T0 106 d 157 65 [some (rf 73)] [] s (qv P)) ∧ (¬ (6 ≤ s 72 24) → Ev xs L T0 106 d 150 [rf 73, it 2, it (s 72 24)] s (qv fun s1 => Ev xs L T0 106 d 146 [rf 73] s1 (qv fun s2 => P s2))))))) ∧ (¬ (¬ s 72 23 = 2) → Ev xs L T0 106 d 150 [rf 73, it 1, it (s 72 24)] s (qv fun s3 => Ev xs L T0 106 d 146 [rf 73] s3 (qv fun s4 => P s4))))) ∧ (¬ (s 72 19 < 0) → P s))) : Fr xs L T0 106 d 157 0 [some (rf 73)] [] s (qv P) := by
  refine Fr.aldn (c := 73) (by decide +kernel : zi 157 0 = some (.aload_n 0, 1)) rfl ⟨by omega, by omega⟩ ?_
  refine Fr.gI (c := 72) (ci := 8) (k := 19) (t := 0) 19 (by decide +kernel : zi 157 1 = some (.getfield 174, 3)) (by decide +kernel) (by decide +kernel) (by decide +kernel) (by decide) rfl ?_
  refine Fr.if0 (q := 8) (by decide +kernel : zi 157 4 = some (.ifCond .lt 4, 3)) (by decide +kernel) (fun g9 => ?_) (fun g9 => ?_)
  · have h := h.1 g9
    refine Fr.aldn (c := 73) (by decide +kernel : zi 157 8 = some (.aload_n 0, 1)) rfl ⟨by omega, by omega⟩ ?_
    refine Fr.gI (c := 72) (ci := 8) (k := 23) (t := 0) 23 (by decide +kernel : zi 157 9 = some (.getfield 158, 3)) (by decide +kernel) (by decide +kernel) (by decide +kernel) (by decide) rfl ?_
    refine Fr.iconst (by decide +kernel : zi 157 12 = some (.iconst 2, 1)) (by decide) ?_
    refine Fr.if2 (q := 32) (by decide +kernel : zi 157 13 = some (.if_icmp .ne 19, 3)) (by decide +kernel) (fun g9 => ?_) (fun g9 => ?_)
    · have h := h.1 g9
      refine Fr.aldn (c := 73) (by decide +kernel : zi 157 32 = some (.aload_n 0, 1)) rfl ⟨by omega, by omega⟩ ?_
      refine Fr.gI (c := 72) (ci := 8) (k := 23) (t := 0) 23 (by decide +kernel : zi 157 33 = some (.getfield 158, 3)) (by decide +kernel) (by decide +kernel) (by decide +kernel) (by decide) rfl ?_
      refine Fr.iconst (by decide +kernel : zi 157 36 = some (.iconst 1, 1)) (by decide) ?_
      refine Fr.if2 (q := 65) (by decide +kernel : zi 157 37 = some (.if_icmp .ne 28, 3)) (by decide +kernel) (fun g9 => ?_) (fun g9 => ?_)
      · have h := h.1 g9
        exact h
      · have h := h.2 g9
        refine Fr.aldn (c := 73) (by decide +kernel : zi 157 40 = some (.aload_n 0, 1)) rfl ⟨by omega, by omega⟩ ?_
        refine Fr.gI (c := 72) (ci := 8) (k := 24) (t := 0) 24 (by decide +kernel : zi 157 41 = some (.getfield 168, 3)) (by decide +kernel) (by decide +kernel) (by decide +kernel) (by decide) rfl ?_
        refine Fr.bipush (by decide +kernel : zi 157 44 = some (.bipush 6, 2)) (by decide) ?_
        refine Fr.if2 (q := 65) (by decide +kernel : zi 157 46 = some (.if_icmp .ge 19, 3)) (by decide +kernel) (fun g9 => ?_) (fun g9 => ?_)
        · have h := h.1 g9
          exact h
        · have h := h.2 g9
          refine Fr.aldn (c := 73) (by decide +kernel : zi 157 49 = some (.aload_n 0, 1)) rfl ⟨by omega, by omega⟩ ?_
          refine Fr.iconst (by decide +kernel : zi 157 50 = some (.iconst 2, 1)) (by decide) ?_
          refine Fr.aldn (c := 73) (by decide +kernel : zi 157 51 = some (.aload_n 0, 1)) rfl ⟨by omega, by omega⟩ ?_
          refine Fr.gI (c := 72) (ci := 8) (k := 24) (t := 0) 24 (by decide +kernel : zi 157 52 = some (.getfield 168, 3)) (by decide +kernel) (by decide +kernel) (by decide +kernel) (by decide) rfl ?_
          refine Fr.callV (y2 := 150) (na := 3) (as := [rf 73, it 2, it (s 72 24)]) (rest := []) (by decide +kernel : zi 157 55 = some (.invokevirtual 195, 3)) rfl (by decide +kernel) (by decide +kernel) rfl rfl (zok_V rfl (by decide) (by decide +kernel) (by decide +kernel) (zrecv_c (c := 72) (by decide) (by decide +kernel)) rfl (Nat.le_of_ble_eq_true rfl)) h (fun s1 h => ?_)
          refine Fr.aldn (c := 73) (by decide +kernel : zi 157 58 = some (.aload_n 0, 1)) rfl ⟨by omega, by omega⟩ ?_
          refine Fr.callV (y2 := 146) (na := 1) (as := [rf 73]) (rest := []) (by decide +kernel : zi 157 59 = some (.invokevirtual 186, 3)) rfl (by decide +kernel) (by decide +kernel) rfl rfl (zok_V rfl (by decide) (by decide +kernel) (by decide +kernel) (zrecv_c (c := 72) (by decide) (by decide +kernel)) rfl (Nat.le_of_ble_eq_true rfl)) h (fun s2 h => ?_)
          refine Fr.goto (q := 161) (by decide +kernel : zi 157 62 = some (.goto 99, 3)) (by decide +kernel) ?_
          exact Fr.retV (by decide +kernel : zi 157 161 = some (.return_, 1)) (by decide +kernel) h
    · have h := h.2 g9
      refine Fr.aldn (c := 73) (by decide +kernel : zi 157 16 = some (.aload_n 0, 1)) rfl ⟨by omega, by omega⟩ ?_
      refine Fr.iconst (by decide +kernel : zi 157 17 = some (.iconst 1, 1)) (by decide) ?_
      refine Fr.aldn (c := 73) (by decide +kernel : zi 157 18 = some (.aload_n 0, 1)) rfl ⟨by omega, by omega⟩ ?_
      refine Fr.gI (c := 72) (ci := 8) (k := 24) (t := 0) 24 (by decide +kernel : zi 157 19 = some (.getfield 168, 3)) (by decide +kernel) (by decide +kernel) (by decide +kernel) (by decide) rfl ?_
      refine Fr.callV (y2 := 150) (na := 3) (as := [rf 73, it 1, it (s 72 24)]) (rest := []) (by decide +kernel : zi 157 22 = some (.invokevirtual 195, 3)) rfl (by decide +kernel) (by decide +kernel) rfl rfl (zok_V rfl (by decide) (by decide +kernel) (by decide +kernel) (zrecv_c (c := 72) (by decide) (by decide +kernel)) rfl (Nat.le_of_ble_eq_true rfl)) h (fun s3 h => ?_)
      refine Fr.aldn (c := 73) (by decide +kernel : zi 157 25 = some (.aload_n 0, 1)) rfl ⟨by omega, by omega⟩ ?_
      refine Fr.callV (y2 := 146) (na := 1) (as := [rf 73]) (rest := []) (by decide +kernel : zi 157 26 = some (.invokevirtual 186, 3)) rfl (by decide +kernel) (by decide +kernel) rfl rfl (zok_V rfl (by decide) (by decide +kernel) (by decide +kernel) (zrecv_c (c := 72) (by decide) (by decide +kernel)) rfl (Nat.le_of_ble_eq_true rfl)) h (fun s4 h => ?_)
      refine Fr.goto (q := 161) (by decide +kernel : zi 157 29 = some (.goto 132, 3)) (by decide +kernel) ?_
      exact Fr.retV (by decide +kernel : zi 157 161 = some (.return_, 1)) (by decide +kernel) h
  · have h := h.2 g9
    exact Fr.retV (by decide +kernel : zi 157 7 = some (.return_, 1)) (by decide +kernel) h
theorem e157 {xs : Nat → Int} {L : Nat} {d : Nat}  {s : Pl} {Q : Option AV → Pl → Prop} (hd : 1 ≤ d) (k : Fr xs L T0 106 (d - 1) 157 0 [some (rf 73)] [] s Q) : Ev xs L T0 106 d 157 [rf 73] s Q := Ev.of (by decide) _ rfl hd k
theorem f157_65 {xs : Nat → Int} {L : Nat} {d : Nat}  {s : Pl} {P : Pl → Prop} (h : Ev xs L T0 106 d 148 [rf 73, it 45] s (qi fun r2 s1 => ((r2 = 0 → Ev xs L T0 106 d 148 [rf 73, it 40] s1 (qi fun r4 s3 => ((r4 = 0 → Ev xs L T0 106 d 147 [rf 73] s3 (qv fun s5 => P s5)) ∧ (¬ (r4 = 0) → Ev xs L T0 106 d 151 [rf 73] s3 (qi fun r7 s6 => ((¬ r7 = 0 → Ev xs L T0 106 d 152 [rf 73] s6 (qv fun s8 => Ev xs L T0 106 d 148 [rf 73, it 41] s8 (qi fun r10 s9 => ((¬ r10 = 0 → Ev xs L T0 106 d 146 [rf 73] (zup s9 72 20 (zw ((s9 72 20) - 1))) (qv fun s11 => P s11)) ∧ (¬ (¬ r10 = 0) → Ev xs L T0 106 d 147 [rf 73] s9 (qv fun s12 => P s12)))))) ∧ (¬ (¬ r7 = 0) → P s6))))))) ∧ (¬ (r2 = 0) → Ev xs L T0 106 d 151 [rf 73] s1 (qi fun r14 s13 => ((¬ r14 = 0 → Ev xs L T0 106 d 157 [rf 73] s13 (qv fun s15 => Ev xs L T0 106 d 150 [rf 73, it 4, it 0] (zup s15 72 20 (zw ((s15 72 20) - 1))) (qv fun s16 => P s16))) ∧ (¬ (¬ r14 = 0) → P s13))))))) : Fr xs L T0 106 d 157 65 [some (rf 73)] [] s (qv P) := by
  refine Fr.aldn (c := 73) (by decide +kernel : zi 157 65 = some (.aload_n 0, 1)) rfl ⟨by omega, by omega⟩ ?_
  refine Fr.bipush (by decide +kernel : zi 157 66 = some (.bipush 45, 2)) (by decide) ?_
  refine Fr.callI (y2 := 148) (na := 2) (as := [rf 73, it 45]) (rest := []) (by decide +kernel : zi 157 68 = some (.invokevirtual 209, 3)) rfl (by decide +kernel) (by decide +kernel) rfl rfl (zok_V rfl (by decide) (by decide +kernel) (by decide +kernel) (zrecv_c (c := 72) (by decide) (by decide +kernel)) rfl (Nat.le_of_ble_eq_true rfl)) h (fun r2 s1 h => ?_)
  refine Fr.if0 (q := 105) (by decide +kernel : zi 157 71 = some (.ifCond .eq 34, 3)) (by decide +kernel) (fun g9 => ?_) (fun g9 => ?_)
  · have h := h.1 g9
    refine Fr.aldn (c := 73) (by decide +kernel : zi 157 105 = some (.aload_n 0, 1)) rfl ⟨by omega, by omega⟩ ?_
    refine Fr.bipush (by decide +kernel : zi 157 106 = some (.bipush 40, 2)) (by decide) ?_
    refine Fr.callI (y2 := 148) (na := 2) (as := [rf 73, it 40]) (rest := []) (by decide +kernel : zi 157 108 = some (.invokevirtual 209, 3)) rfl (by decide +kernel) (by decide +kernel) rfl rfl (zok_V rfl (by decide) (by decide +kernel) (by decide +kernel) (zrecv_c (c := 72) (by decide) (by decide +kernel)) rfl (Nat.le_of_ble_eq_true rfl)) h (fun r4 s3 h => ?_)
    refine Fr.if0 (q := 157) (by decide +kernel : zi 157 111 = some (.ifCond .eq 46, 3)) (by decide +kernel) (fun g9 => ?_) (fun g9 => ?_)
    · have h := h.1 g9
      refine Fr.aldn (c := 73) (by decide +kernel : zi 157 157 = some (.aload_n 0, 1)) rfl ⟨by omega, by omega⟩ ?_
      refine Fr.callV (y2 := 147) (na := 1) (as := [rf 73]) (rest := []) (by decide +kernel : zi 157 158 = some (.invokevirtual 183, 3)) rfl (by decide +kernel) (by decide +kernel) rfl rfl (zok_V rfl (by decide) (by decide +kernel) (by decide +kernel) (zrecv_c (c := 72) (by decide) (by decide +kernel)) rfl (Nat.le_of_ble_eq_true rfl)) h (fun s5 h => ?_)
      exact Fr.retV (by decide +kernel : zi 157 161 = some (.return_, 1)) (by decide +kernel) h
    · have h := h.2 g9
      refine Fr.aldn (c := 73) (by decide +kernel : zi 157 114 = some (.aload_n 0, 1)) rfl ⟨by omega, by omega⟩ ?_
      refine Fr.callI (y2 := 151) (na := 1) (as := [rf 73]) (rest := []) (by decide +kernel : zi 157 115 = some (.invokevirtual 202, 3)) rfl (by decide +kernel) (by decide +kernel) rfl rfl (zok_V rfl (by decide) (by decide +kernel) (by decide +kernel) (zrecv_c (c := 72) (by decide) (by decide +kernel)) rfl (Nat.le_of_ble_eq_true rfl)) h (fun r7 s6 h => ?_)
      refine Fr.if0 (q := 122) (by decide +kernel : zi 157 118 = some (.ifCond .ne 4, 3)) (by decide +kernel) (fun g9 => ?_) (fun g9 => ?_)
      · have h := h.1 g9
        refine Fr.aldn (c := 73) (by decide +kernel : zi 157 122 = some (.aload_n 0, 1)) rfl ⟨by omega, by omega⟩ ?_
        refine Fr.callV (y2 := 152) (na := 1) (as := [rf 73]) (rest := []) (by decide +kernel : zi 157 123 = some (.invokevirtual 218, 3)) rfl (by decide +kernel) (by decide +kernel) rfl rfl (zok_V rfl (by decide) (by decide +kernel) (by decide +kernel) (zrecv_c (c := 72) (by decide) (by decide +kernel)) rfl (Nat.le_of_ble_eq_true rfl)) h (fun s8 h => ?_)
        refine Fr.aldn (c := 73) (by decide +kernel : zi 157 126 = some (.aload_n 0, 1)) rfl ⟨by omega, by omega⟩ ?_
        refine Fr.bipush (by decide +kernel : zi 157 127 = some (.bipush 41, 2)) (by decide) ?_
        refine Fr.callI (y2 := 148) (na := 2) (as := [rf 73, it 41]) (rest := []) (by decide +kernel : zi 157 129 = some (.invokevirtual 209, 3)) rfl (by decide +kernel) (by decide +kernel) rfl rfl (zok_V rfl (by decide) (by decide +kernel) (by decide +kernel) (zrecv_c (c := 72) (by decide) (by decide +kernel)) rfl (Nat.le_of_ble_eq_true rfl)) h (fun r10 s9 h => ?_)
        refine Fr.if0 (q := 140) (by decide +kernel : zi 157 132 = some (.ifCond .ne 8, 3)) (by decide +kernel) (fun g9 => ?_) (fun g9 => ?_)
        · have h := h.1 g9
          refine Fr.aldn (c := 73) (by decide +kernel : zi 157 140 = some (.aload_n 0, 1)) rfl ⟨by omega, by omega⟩ ?_
          refine Fr.dup (by decide +kernel : zi 157 141 = some (.dup, 1)) rfl ?_
          refine Fr.gI (c := 72) (ci := 8) (k := 20) (t := 0) 20 (by decide +kernel : zi 157 142 = some (.getfield 180, 3)) (by decide +kernel) (by decide +kernel) (by decide +kernel) (by decide) rfl ?_
          refine Fr.iconst (by decide +kernel : zi 157 145 = some (.iconst 1, 1)) (by decide) ?_
          refine Fr.isub (by decide +kernel : zi 157 146 = some (.isub, 1)) ?_
          refine Fr.pI (c := 72) (ci := 8) (k := 20) 20 (by decide +kernel : zi 157 147 = some (.putfield 180, 3)) (by decide +kernel) (by decide +kernel) (by decide +kernel) (by decide) rfl ?_
          refine Fr.aldn (c := 73) (by decide +kernel : zi 157 150 = some (.aload_n 0, 1)) rfl ⟨by omega, by omega⟩ ?_
          refine Fr.callV (y2 := 146) (na := 1) (as := [rf 73]) (rest := []) (by decide +kernel : zi 157 151 = some (.invokevirtual 186, 3)) rfl (by decide +kernel) (by decide +kernel) rfl rfl (zok_V rfl (by decide) (by decide +kernel) (by decide +kernel) (zrecv_c (c := 72) (by decide) (by decide +kernel)) rfl (Nat.le_of_ble_eq_true rfl)) h (fun s11 h => ?_)
          refine Fr.goto (q := 161) (by decide +kernel : zi 157 154 = some (.goto 7, 3)) (by decide +kernel) ?_
          exact Fr.retV (by decide +kernel : zi 157 161 = some (.return_, 1)) (by decide +kernel) h
        · have h := h.2 g9
          refine Fr.aldn (c := 73) (by decide +kernel : zi 157 135 = some (.aload_n 0, 1)) rfl ⟨by omega, by omega⟩ ?_
          refine Fr.callV (y2 := 147) (na := 1) (as := [rf 73]) (rest := []) (by decide +kernel : zi 157 136 = some (.invokevirtual 183, 3)) rfl (by decide +kernel) (by decide +kernel) rfl rfl (zok_V rfl (by decide) (by decide +kernel) (by decide +kernel) (zrecv_c (c := 72) (by decide) (by decide +kernel)) rfl (Nat.le_of_ble_eq_true rfl)) h (fun s12 h => ?_)
          exact Fr.retV (by decide +kernel : zi 157 139 = some (.return_, 1)) (by decide +kernel) h
      · have h := h.2 g9
        exact Fr.retV (by decide +kernel : zi 157 121 = some (.return_, 1)) (by decide +kernel) h
  · have h := h.2 g9
    refine Fr.aldn (c := 73) (by decide +kernel : zi 157 74 = some (.aload_n 0, 1)) rfl ⟨by omega, by omega⟩ ?_
    refine Fr.callI (y2 := 151) (na := 1) (as := [rf 73]) (rest := []) (by decide +kernel : zi 157 75 = some (.invokevirtual 202, 3)) rfl (by decide +kernel) (by decide +kernel) rfl rfl (zok_V rfl (by decide) (by decide +kernel) (by decide +kernel) (zrecv_c (c := 72) (by decide) (by decide +kernel)) rfl (Nat.le_of_ble_eq_true rfl)) h (fun r14 s13 h => ?_)
    refine Fr.if0 (q := 82) (by decide +kernel : zi 157 78 = some (.ifCond .ne 4, 3)) (by decide +kernel) (fun g9 => ?_) (fun g9 => ?_)
    · have h := h.1 g9
      refine Fr.aldn (c := 73) (by decide +kernel : zi 157 82 = some (.aload_n 0, 1)) rfl ⟨by omega, by omega⟩ ?_
      refine Fr.callV (y2 := 157) (na := 1) (as := [rf 73]) (rest := []) (by decide +kernel : zi 157 83 = some (.invokevirtual 215, 3)) rfl (by decide +kernel) (by decide +kernel) rfl rfl (zok_V rfl (by decide) (by decide +kernel) (by decide +kernel) (zrecv_c (c := 72) (by decide) (by decide +kernel)) rfl (Nat.le_of_ble_eq_true rfl)) h (fun s15 h => ?_)
      refine Fr.aldn (c := 73) (by decide +kernel : zi 157 86 = some (.aload_n 0, 1)) rfl ⟨by omega, by omega⟩ ?_
      refine Fr.dup (by decide +kernel : zi 157 87 = some (.dup, 1)) rfl ?_
      refine Fr.gI (c := 72) (ci := 8) (k := 20) (t := 0) 20 (by decide +kernel : zi 157 88 = some (.getfield 180, 3)) (by decide +kernel) (by decide +kernel) (by decide +kernel) (by decide) rfl ?_
      refine Fr.iconst (by decide +kernel : zi 157 91 = some (.iconst 1, 1)) (by decide) ?_
      refine Fr.isub (by decide +kernel : zi 157 92 = some (.isub, 1)) ?_
      refine Fr.pI (c := 72) (ci := 8) (k := 20) 20 (by decide +kernel : zi 157 93 = some (.putfield 180, 3)) (by decide +kernel) (by decide +kernel) (by decide +kernel) (by decide) rfl ?_
      refine Fr.aldn (c := 73) (by decide +kernel : zi 157 96 = some (.aload_n 0, 1)) rfl ⟨by omega, by omega⟩ ?_
      refine Fr.iconst (by decide +kernel : zi 157 97 = some (.iconst 4, 1)) (by decide) ?_
      refine Fr.iconst (by decide +kernel : zi 157 98 = some (.iconst 0, 1)) (by decide) ?_
      refine Fr.callV (y2 := 150) (na := 3) (as := [rf 73, it 4, it 0]) (rest := []) (by decide +kernel : zi 157 99 = some (.invokevirtual 195, 3)) rfl (by decide +kernel) (by decide +kernel) rfl rfl (zok_V rfl (by decide) (by decide +kernel) (by decide +kernel) (zrecv_c (c := 72) (by decide) (by decide +kernel)) rfl (Nat.le_of_ble_eq_true rfl)) h (fun s16 h => ?_)
      refine Fr.goto (q := 161) (by decide +kernel : zi 157 102 = some (.goto 59, 3)) (by decide +kernel) ?_
      exact Fr.retV (by decide +kernel : zi 157 161 = some (.return_, 1)) (by decide +kernel) h
    · have h := h.2 g9
      exact Fr.retV (by decide +kernel : zi 157 81 = some (.return_, 1)) (by decide +kernel) h
-- 158 X8_rule
theorem f158_0 {xs : Nat → Int} {L : Nat} {d : Nat} {v1 : Int} {s : Pl} {P : Pl → Prop} (h : Ev xs L T0 106 d 149 [rf 73, it (zw (10 + v1))] s (qi fun r2 s1 => ((¬ r2 = 0 → Ev xs L T0 106 d 146 [rf 73] s1 (qv fun s3 => Ev xs L T0 106 d 152 [rf 73] s3 (qv fun s4 => Ev xs L T0 106 d 148 [rf 73, it 59] s4 (qi fun r6 s5 => ((¬ r6 = 0 → Ev xs L T0 106 d 146 [rf 73] s5 (qv fun s7 => (0 ≤ zw (18 + v1) ∧ zw (18 + v1) < 21) ∧ P (zup s7 84 (zw (18 + v1)) (s7 72 18)))) ∧ (¬ (¬ r6 = 0) → Ev xs L T0 106 d 147 [rf 73] s5 (qv fun s8 => P s8))))))) ∧ (¬ (¬ r2 = 0) → Ev xs L T0 106 d 147 [rf 73] s1 (qv fun s9 => P s9))))) : Fr xs L T0 106 d 158 0 [some (rf 73), some (it v1)] [] s (qv P) := by
  refine Fr.aldn (c := 73) (by decide +kernel : zi 158 0 = some (.aload_n 0, 1)) rfl ⟨by omega, by omega⟩ ?_
  refine Fr.bipush (by decide +kernel : zi 158 1 = some (.bipush 10, 2)) (by decide) ?_
  refine Fr.ildn (by decide +kernel : zi 158 3 = some (.iload_n 1, 1)) rfl ?_
  refine Fr.iadd (by decide +kernel : zi 158 4 = some (.iadd, 1)) ?_
  refine Fr.callI (y2 := 149) (na := 2) (as := [rf 73, it (zw (10 + v1))]) (rest := []) (by decide +kernel : zi 158 5 = some (.invokevirtual 192, 3)) rfl (by decide +kernel) (by decide +kernel) rfl rfl (zok_V rfl (by decide) (by decide +kernel) (by decide +kernel) (zrecv_c (c := 72) (by decide) (by decide +kernel)) rfl (Nat.le_of_ble_eq_true rfl)) h (fun r2 s1 h => ?_)
  refine Fr.if0 (q := 16) (by decide +kernel : zi 158 8 = some (.ifCond .ne 8, 3)) (by decide +kernel) (fun g9 => ?_) (fun g9 => ?_)
  · have h := h.1 g9
    refine Fr.aldn (c := 73) (by decide +kernel : zi 158 16 = some (.aload_n 0, 1)) rfl ⟨by omega, by omega⟩ ?_
    refine Fr.callV (y2 := 146) (na := 1) (as := [rf 73]) (rest := []) (by decide +kernel : zi 158 17 = some (.invokevirtual 186, 3)) rfl (by decide +kernel) (by decide +kernel) rfl rfl (zok_V rfl (by decide) (by decide +kernel) (by decide +kernel) (zrecv_c (c := 72) (by decide) (by decide +kernel)) rfl (Nat.le_of_ble_eq_true rfl)) h (fun s3 h => ?_)
    refine Fr.aldn (c := 73) (by decide +kernel : zi 158 20 = some (.aload_n 0, 1)) rfl ⟨by omega, by omega⟩ ?_
    refine Fr.callV (y2 := 152) (na := 1) (as := [rf 73]) (rest := []) (by decide +kernel : zi 158 21 = some (.invokevirtual 218, 3)) rfl (by decide +kernel) (by decide +kernel) rfl rfl (zok_V rfl (by decide) (by decide +kernel) (by decide +kernel) (zrecv_c (c := 72) (by decide) (by decide +kernel)) rfl (Nat.le_of_ble_eq_true rfl)) h (fun s4 h => ?_)
    refine Fr.aldn (c := 73) (by decide +kernel : zi 158 24 = some (.aload_n 0, 1)) rfl ⟨by omega, by omega⟩ ?_
    refine Fr.bipush (by decide +kernel : zi 158 25 = some (.bipush 59, 2)) (by decide) ?_
    refine Fr.callI (y2 := 148) (na := 2) (as := [rf 73, it 59]) (rest := []) (by decide +kernel : zi 158 27 = some (.invokevirtual 209, 3)) rfl (by decide +kernel) (by decide +kernel) rfl rfl (zok_V rfl (by decide) (by decide +kernel) (by decide +kernel) (zrecv_c (c := 72) (by decide) (by decide +kernel)) rfl (Nat.le_of_ble_eq_true rfl)) h (fun r6 s5 h => ?_)
    refine Fr.if0 (q := 38) (by decide +kernel : zi 158 30 = some (.ifCond .ne 8, 3)) (by decide +kernel) (fun g9 => ?_) (fun g9 => ?_)
    · have h := h.1 g9
      refine Fr.aldn (c := 73) (by decide +kernel : zi 158 38 = some (.aload_n 0, 1)) rfl ⟨by omega, by omega⟩ ?_
      refine Fr.callV (y2 := 146) (na := 1) (as := [rf 73]) (rest := []) (by decide +kernel : zi 158 39 = some (.invokevirtual 186, 3)) rfl (by decide +kernel) (by decide +kernel) rfl rfl (zok_V rfl (by decide) (by decide +kernel) (by decide +kernel) (zrecv_c (c := 72) (by decide) (by decide +kernel)) rfl (Nat.le_of_ble_eq_true rfl)) h (fun s7 h => ?_)
      refine Fr.aldn (c := 73) (by decide +kernel : zi 158 42 = some (.aload_n 0, 1)) rfl ⟨by omega, by omega⟩ ?_
      refine Fr.gR (c := 72) (c2 := 85) (ci := 8) (k := 17) 17 (by decide +kernel : zi 158 43 = some (.getfield 48, 3)) (by decide +kernel) (by decide +kernel) (by decide +kernel) (by decide) rfl (fun q => q (72, 17, 85) (by decide +kernel)) ?_
      refine Fr.bipush (by decide +kernel : zi 158 46 = some (.bipush 18, 2)) (by decide) ?_
      refine Fr.ildn (by decide +kernel : zi 158 48 = some (.iload_n 1, 1)) rfl ?_
      refine Fr.iadd (by decide +kernel : zi 158 49 = some (.iadd, 1)) ?_
      refine Fr.aldn (c := 73) (by decide +kernel : zi 158 50 = some (.aload_n 0, 1)) rfl ⟨by omega, by omega⟩ ?_
      refine Fr.gI (c := 72) (ci := 8) (k := 18) (t := 0) 18 (by decide +kernel : zi 158 51 = some (.getfield 177, 3)) (by decide +kernel) (by decide +kernel) (by decide +kernel) (by decide) rfl ?_
      obtain ⟨⟨g0, g1⟩, h⟩ := h
      refine Fr.iast (c := 84) (N := 21) (by decide +kernel : zi 158 54 = some (.iastore, 1)) (by decide +kernel) (by decide) g0 g1 ?_
      exact Fr.retV (by decide +kernel : zi 158 55 = some (.return_, 1)) (by decide +kernel) h
    · have h := h.2 g9
      refine Fr.aldn (c := 73) (by decide +kernel : zi 158 33 = some (.aload_n 0, 1)) rfl ⟨by omega, by omega⟩ ?_
      refine Fr.callV (y2 := 147) (na := 1) (as := [rf 73]) (rest := []) (by decide +kernel : zi 158 34 = some (.invokevirtual 183, 3)) rfl (by decide +kernel) (by decide +kernel) rfl rfl (zok_V rfl (by decide) (by decide +kernel) (by decide +kernel) (zrecv_c (c := 72) (by decide) (by decide +kernel)) rfl (Nat.le_of_ble_eq_true rfl)) h (fun s8 h => ?_)
      exact Fr.retV (by decide +kernel : zi 158 37 = some (.return_, 1)) (by decide +kernel) h
  · have h := h.2 g9
    refine Fr.aldn (c := 73) (by decide +kernel : zi 158 11 = some (.aload_n 0, 1)) rfl ⟨by omega, by omega⟩ ?_
    refine Fr.callV (y2 := 147) (na := 1) (as := [rf 73]) (rest := []) (by decide +kernel : zi 158 12 = some (.invokevirtual 183, 3)) rfl (by decide +kernel) (by decide +kernel) rfl rfl (zok_V rfl (by decide) (by decide +kernel) (by decide +kernel) (zrecv_c (c := 72) (by decide) (by decide +kernel)) rfl (Nat.le_of_ble_eq_true rfl)) h (fun s9 h => ?_)
    exact Fr.retV (by decide +kernel : zi 158 15 = some (.return_, 1)) (by decide +kernel) h
theorem e158 {xs : Nat → Int} {L : Nat} {d : Nat} {v1 : Int} {s : Pl} {Q : Option AV → Pl → Prop} (hd : 1 ≤ d) (k : Fr xs L T0 106 (d - 1) 158 0 [some (rf 73), some (it v1)] [] s Q) : Ev xs L T0 106 d 158 [rf 73, it v1] s Q := Ev.of (by decide) _ rfl hd k
-- 159 X8_text
theorem f159_0 {xs : Nat → Int} {L : Nat} {d : Nat}  {s : Pl} {P : Int → Pl → Prop} (h : ((¬ s 72 13 = 6 → Ev xs L T0 106 d 146 [rf 73] (zup (zup (zup (zup s 72 22 0) 72 19 (-1)) 72 20 0) 72 18 0) (qv fun s1 => Fr xs L T0 106 d 159 38 [some (rf 73), some (it 0)] [] s1 (qi P))) ∧ (¬ (¬ s 72 13 = 6) → P (-4) s))) : Fr xs L T0 106 d 159 0 [some (rf 73), none] [] s (qi P) := by
  refine Fr.aldn (c := 73) (by decide +kernel : zi 159 0 = some (.aload_n 0, 1)) rfl ⟨by omega, by omega⟩ ?_
  refine Fr.gI (c := 72) (ci := 8) (k := 13) (t := 0) 13 (by decide +kernel : zi 159 1 = some (.getfield 38, 3)) (by decide +kernel) (by decide +kernel) (by decide +kernel) (by decide) rfl ?_
  refine Fr.bipush (by decide +kernel : zi 159 4 = some (.bipush 6, 2)) (by decide) ?_
  refine Fr.if2 (q := 12) (by decide +kernel : zi 159 6 = some (.if_icmp .ne 6, 3)) (by decide +kernel) (fun g9 => ?_) (fun g9 => ?_)
  · have h := h.1 g9
    refine Fr.aldn (c := 73) (by decide +kernel : zi 159 12 = some (.aload_n 0, 1)) rfl ⟨by omega, by omega⟩ ?_
    refine Fr.iconst (by decide +kernel : zi 159 13 = some (.iconst 0, 1)) (by decide) ?_
    refine Fr.pI (c := 72) (ci := 8) (k := 22) 22 (by decide +kernel : zi 159 14 = some (.putfield 155, 3)) (by decide +kernel) (by decide +kernel) (by decide +kernel) (by decide) rfl ?_
    refine Fr.aldn (c := 73) (by decide +kernel : zi 159 17 = some (.aload_n 0, 1)) rfl ⟨by omega, by omega⟩ ?_
    refine Fr.iconst (by decide +kernel : zi 159 18 = some (.iconst (-1), 1)) (by decide) ?_
    refine Fr.pI (c := 72) (ci := 8) (k := 19) 19 (by decide +kernel : zi 159 19 = some (.putfield 174, 3)) (by decide +kernel) (by decide +kernel) (by decide +kernel) (by decide) rfl ?_
    refine Fr.aldn (c := 73) (by decide +kernel : zi 159 22 = some (.aload_n 0, 1)) rfl ⟨by omega, by omega⟩ ?_
    refine Fr.iconst (by decide +kernel : zi 159 23 = some (.iconst 0, 1)) (by decide) ?_
    refine Fr.pI (c := 72) (ci := 8) (k := 20) 20 (by decide +kernel : zi 159 24 = some (.putfield 180, 3)) (by decide +kernel) (by decide +kernel) (by decide +kernel) (by decide) rfl ?_
    refine Fr.aldn (c := 73) (by decide +kernel : zi 159 27 = some (.aload_n 0, 1)) rfl ⟨by omega, by omega⟩ ?_
    refine Fr.iconst (by decide +kernel : zi 159 28 = some (.iconst 0, 1)) (by decide) ?_
    refine Fr.pI (c := 72) (ci := 8) (k := 18) 18 (by decide +kernel : zi 159 29 = some (.putfield 177, 3)) (by decide +kernel) (by decide +kernel) (by decide +kernel) (by decide) rfl ?_
    refine Fr.aldn (c := 73) (by decide +kernel : zi 159 32 = some (.aload_n 0, 1)) rfl ⟨by omega, by omega⟩ ?_
    refine Fr.callV (y2 := 146) (na := 1) (as := [rf 73]) (rest := []) (by decide +kernel : zi 159 33 = some (.invokevirtual 186, 3)) rfl (by decide +kernel) (by decide +kernel) rfl rfl (zok_V rfl (by decide) (by decide +kernel) (by decide +kernel) (zrecv_c (c := 72) (by decide) (by decide +kernel)) rfl (Nat.le_of_ble_eq_true rfl)) h (fun s1 h => ?_)
    refine Fr.iconst (by decide +kernel : zi 159 36 = some (.iconst 0, 1)) (by decide) ?_
    refine Fr.istn (lv2 := [some (rf 73), some (it 0)]) (by decide +kernel : zi 159 37 = some (.istore_n 1, 1)) (Nat.le_of_ble_eq_true rfl) rfl ?_
    exact h
  · have h := h.2 g9
    refine Fr.bipush (by decide +kernel : zi 159 9 = some (.bipush (-4), 2)) (by decide) ?_
    exact Fr.retI (by decide +kernel : zi 159 11 = some (.ireturn, 1)) (by decide +kernel) h
theorem e159 {xs : Nat → Int} {L : Nat} {d : Nat}  {s : Pl} {Q : Option AV → Pl → Prop} (hd : 1 ≤ d) (k : Fr xs L T0 106 (d - 1) 159 0 [some (rf 73), none] [] s Q) : Ev xs L T0 106 d 159 [rf 73] s Q := Ev.of (by decide) _ rfl hd k
theorem f159_38 {xs : Nat → Int} {L : Nat} {d : Nat} {v1 : Int} {s : Pl} {P : Int → Pl → Prop} (h : ((2 < v1 → Fr xs L T0 106 d 159 61 [some (rf 73), some (it v1)] [] s (qi P)) ∧ (¬ (2 < v1) → ((0 ≤ s 72 19 → Fr xs L T0 106 d 159 61 [some (rf 73), some (it v1)] [] s (qi P)) ∧ (¬ (0 ≤ s 72 19) → Ev xs L T0 106 d 158 [rf 73, it v1] s (qv fun s1 => Fr xs L T0 106 d 159 38 [some (rf 73), some (it (zw (v1 + 1)))] [] s1 (qi P))))))) : Fr xs L T0 106 d 159 38 [some (rf 73), some (it v1)] [] s (qi P) := by
  refine Fr.ildn (by decide +kernel : zi 159 38 = some (.iload_n 1, 1)) rfl ?_
  refine Fr.iconst (by decide +kernel : zi 159 39 = some (.iconst 2, 1)) (by decide) ?_
  refine Fr.if2 (q := 61) (by decide +kernel : zi 159 40 = some (.if_icmp .gt 21, 3)) (by decide +kernel) (fun g9 => ?_) (fun g9 => ?_)
  · have h := h.1 g9
    exact h
  · have h := h.2 g9
    refine Fr.aldn (c := 73) (by decide +kernel : zi 159 43 = some (.aload_n 0, 1)) rfl ⟨by omega, by omega⟩ ?_
    refine Fr.gI (c := 72) (ci := 8) (k := 19) (t := 0) 19 (by decide +kernel : zi 159 44 = some (.getfield 174, 3)) (by decide +kernel) (by decide +kernel) (by decide +kernel) (by decide) rfl ?_
    refine Fr.if0 (q := 61) (by decide +kernel : zi 159 47 = some (.ifCond .ge 14, 3)) (by decide +kernel) (fun g9 => ?_) (fun g9 => ?_)
    · have h := h.1 g9
      exact h
    · have h := h.2 g9
      refine Fr.aldn (c := 73) (by decide +kernel : zi 159 50 = some (.aload_n 0, 1)) rfl ⟨by omega, by omega⟩ ?_
      refine Fr.ildn (by decide +kernel : zi 159 51 = some (.iload_n 1, 1)) rfl ?_
      refine Fr.callV (y2 := 158) (na := 2) (as := [rf 73, it v1]) (rest := []) (by decide +kernel : zi 159 52 = some (.invokevirtual 221, 3)) rfl (by decide +kernel) (by decide +kernel) rfl rfl (zok_V rfl (by decide) (by decide +kernel) (by decide +kernel) (zrecv_c (c := 72) (by decide) (by decide +kernel)) rfl (Nat.le_of_ble_eq_true rfl)) h (fun s1 h => ?_)
      refine Fr.iinc (lv2 := [some (rf 73), some (it (zw (v1 + 1)))]) (by decide +kernel : zi 159 55 = some (.iinc 1 1, 3)) (Nat.le_of_ble_eq_true rfl) rfl rfl ?_
      refine Fr.goto (q := 38) (by decide +kernel : zi 159 58 = some (.goto (-20), 3)) (by decide +kernel) ?_
      exact h
theorem f159_61 {xs : Nat → Int} {L : Nat} {d : Nat} {v1 : Int} {s : Pl} {P : Int → Pl → Prop} (h : ((0 ≤ s 72 19 → Fr xs L T0 106 d 159 80 [some (rf 73), some (it v1)] [] s (qi P)) ∧ (¬ (0 ≤ s 72 19) → ((s 72 23 = 4 → Fr xs L T0 106 d 159 80 [some (rf 73), some (it v1)] [] s (qi P)) ∧ (¬ (s 72 23 = 4) → Ev xs L T0 106 d 147 [rf 73] s (qv fun s1 => Fr xs L T0 106 d 159 80 [some (rf 73), some (it v1)] [] s1 (qi P))))))) : Fr xs L T0 106 d 159 61 [some (rf 73), some (it v1)] [] s (qi P) := by
  refine Fr.aldn (c := 73) (by decide +kernel : zi 159 61 = some (.aload_n 0, 1)) rfl ⟨by omega, by omega⟩ ?_
  refine Fr.gI (c := 72) (ci := 8) (k := 19) (t := 0) 19 (by decide +kernel : zi 159 62 = some (.getfield 174, 3)) (by decide +kernel) (by decide +kernel) (by decide +kernel) (by decide) rfl ?_
  refine Fr.if0 (q := 80) (by decide +kernel : zi 159 65 = some (.ifCond .ge 15, 3)) (by decide +kernel) (fun g9 => ?_) (fun g9 => ?_)
  · have h := h.1 g9
    exact h
  · have h := h.2 g9
    refine Fr.aldn (c := 73) (by decide +kernel : zi 159 68 = some (.aload_n 0, 1)) rfl ⟨by omega, by omega⟩ ?_
    refine Fr.gI (c := 72) (ci := 8) (k := 23) (t := 0) 23 (by decide +kernel : zi 159 69 = some (.getfield 158, 3)) (by decide +kernel) (by decide +kernel) (by decide +kernel) (by decide) rfl ?_
    refine Fr.iconst (by decide +kernel : zi 159 72 = some (.iconst 4, 1)) (by decide) ?_
    refine Fr.if2 (q := 80) (by decide +kernel : zi 159 73 = some (.if_icmp .eq 7, 3)) (by decide +kernel) (fun g9 => ?_) (fun g9 => ?_)
    · have h := h.1 g9
      exact h
    · have h := h.2 g9
      refine Fr.aldn (c := 73) (by decide +kernel : zi 159 76 = some (.aload_n 0, 1)) rfl ⟨by omega, by omega⟩ ?_
      refine Fr.callV (y2 := 147) (na := 1) (as := [rf 73]) (rest := []) (by decide +kernel : zi 159 77 = some (.invokevirtual 183, 3)) rfl (by decide +kernel) (by decide +kernel) rfl rfl (zok_V rfl (by decide) (by decide +kernel) (by decide +kernel) (zrecv_c (c := 72) (by decide) (by decide +kernel)) rfl (Nat.le_of_ble_eq_true rfl)) h (fun s1 h => ?_)
      exact h
theorem f159_80 {xs : Nat → Int} {L : Nat} {d : Nat} {v1 : Int} {s : Pl} {P : Int → Pl → Prop} (h : (((zup s 72 12 0) 72 19 < 0 → Fr xs L T0 106 d 159 102 [some (rf 73), some (it 0)] [] (zup s 72 12 0) (qi P)) ∧ (¬ ((zup s 72 12 0) 72 19 < 0) → P (zw ((-100) - ((zup s 72 12 0) 72 19))) (zup s 72 12 0)))) : Fr xs L T0 106 d 159 80 [some (rf 73), some (it v1)] [] s (qi P) := by
  refine Fr.aldn (c := 73) (by decide +kernel : zi 159 80 = some (.aload_n 0, 1)) rfl ⟨by omega, by omega⟩ ?_
  refine Fr.iconst (by decide +kernel : zi 159 81 = some (.iconst 0, 1)) (by decide) ?_
  refine Fr.pI (c := 72) (ci := 8) (k := 12) 12 (by decide +kernel : zi 159 82 = some (.putfield 142, 3)) (by decide +kernel) (by decide +kernel) (by decide +kernel) (by decide) rfl ?_
  refine Fr.aldn (c := 73) (by decide +kernel : zi 159 85 = some (.aload_n 0, 1)) rfl ⟨by omega, by omega⟩ ?_
  refine Fr.gI (c := 72) (ci := 8) (k := 19) (t := 0) 19 (by decide +kernel : zi 159 86 = some (.getfield 174, 3)) (by decide +kernel) (by decide +kernel) (by decide +kernel) (by decide) rfl ?_
  refine Fr.if0 (q := 100) (by decide +kernel : zi 159 89 = some (.ifCond .lt 11, 3)) (by decide +kernel) (fun g9 => ?_) (fun g9 => ?_)
  · have h := h.1 g9
    refine Fr.iconst (by decide +kernel : zi 159 100 = some (.iconst 0, 1)) (by decide) ?_
    refine Fr.istn (lv2 := [some (rf 73), some (it 0)]) (by decide +kernel : zi 159 101 = some (.istore_n 1, 1)) (Nat.le_of_ble_eq_true rfl) rfl ?_
    exact h
  · have h := h.2 g9
    refine Fr.bipush (by decide +kernel : zi 159 92 = some (.bipush (-100), 2)) (by decide) ?_
    refine Fr.aldn (c := 73) (by decide +kernel : zi 159 94 = some (.aload_n 0, 1)) rfl ⟨by omega, by omega⟩ ?_
    refine Fr.gI (c := 72) (ci := 8) (k := 19) (t := 0) 19 (by decide +kernel : zi 159 95 = some (.getfield 174, 3)) (by decide +kernel) (by decide +kernel) (by decide +kernel) (by decide) rfl ?_
    refine Fr.isub (by decide +kernel : zi 159 98 = some (.isub, 1)) ?_
    exact Fr.retI (by decide +kernel : zi 159 99 = some (.ireturn, 1)) (by decide +kernel) h
theorem f159_102 {xs : Nat → Int} {L : Nat} {d : Nat} {v1 : Int} {s : Pl} {P : Int → Pl → Prop} (h : ((s 72 18 ≤ v1 → Fr xs L T0 106 d 159 168 [some (rf 73), some (it 0)] [] s (qi P)) ∧ (¬ (s 72 18 ≤ v1) → (0 ≤ zw (1020 + v1) ∧ zw (1020 + v1) < 1190) ∧ (0 ≤ zw ((zw (170 * (s 72 13))) + v1) ∧ zw ((zw (170 * (s 72 13))) + v1) < 1190) ∧ (0 ≤ zw (1020 + v1) ∧ zw (1020 + v1) < 1190) ∧ (0 ≤ zw ((zw (170 * ((zup s 82 (zw ((zw (170 * (s 72 13))) + v1)) (s 82 (zw (1020 + v1)))) 72 13))) + v1) ∧ zw ((zw (170 * ((zup s 82 (zw ((zw (170 * (s 72 13))) + v1)) (s 82 (zw (1020 + v1)))) 72 13))) + v1) < 1190) ∧ Fr xs L T0 106 d 159 102 [some (rf 73), some (it (zw (v1 + 1)))] [] (zup (zup s 82 (zw ((zw (170 * (s 72 13))) + v1)) (s 82 (zw (1020 + v1)))) 83 (zw ((zw (170 * ((zup s 82 (zw ((zw (170 * (s 72 13))) + v1)) (s 82 (zw (1020 + v1)))) 72 13))) + v1)) ((zup s 82 (zw ((zw (170 * (s 72 13))) + v1)) (s 82 (zw (1020 + v1)))) 83 (zw (1020 + v1)))) (qi P)))) : Fr xs L T0 106 d 159 102 [some (rf 73), some (it v1)] [] s (qi P) := by
  refine Fr.ildn (by decide +kernel : zi 159 102 = some (.iload_n 1, 1)) rfl ?_
  refine Fr.aldn (c := 73) (by decide +kernel : zi 159 103 = some (.aload_n 0, 1)) rfl ⟨by omega, by omega⟩ ?_
  refine Fr.gI (c := 72) (ci := 8) (k := 18) (t := 0) 18 (by decide +kernel : zi 159 104 = some (.getfield 177, 3)) (by decide +kernel) (by decide +kernel) (by decide +kernel) (by decide) rfl ?_
  refine Fr.if2 (q := 166) (by decide +kernel : zi 159 107 = some (.if_icmp .ge 59, 3)) (by decide +kernel) (fun g9 => ?_) (fun g9 => ?_)
  · have h := h.1 g9
    refine Fr.iconst (by decide +kernel : zi 159 166 = some (.iconst 0, 1)) (by decide) ?_
    refine Fr.istn (lv2 := [some (rf 73), some (it 0)]) (by decide +kernel : zi 159 167 = some (.istore_n 1, 1)) (Nat.le_of_ble_eq_true rfl) rfl ?_
    exact h
  · have h := h.2 g9
    refine Fr.aldn (c := 73) (by decide +kernel : zi 159 110 = some (.aload_n 0, 1)) rfl ⟨by omega, by omega⟩ ?_
    refine Fr.gR (c := 72) (c2 := 83) (ci := 8) (k := 15) 15 (by decide +kernel : zi 159 111 = some (.getfield 42, 3)) (by decide +kernel) (by decide +kernel) (by decide +kernel) (by decide) rfl (fun q => q (72, 15, 83) (by decide +kernel)) ?_
    refine Fr.sipush (by decide +kernel : zi 159 114 = some (.sipush 170, 3)) (by decide) ?_
    refine Fr.aldn (c := 73) (by decide +kernel : zi 159 117 = some (.aload_n 0, 1)) rfl ⟨by omega, by omega⟩ ?_
    refine Fr.gI (c := 72) (ci := 8) (k := 13) (t := 0) 13 (by decide +kernel : zi 159 118 = some (.getfield 38, 3)) (by decide +kernel) (by decide +kernel) (by decide +kernel) (by decide) rfl ?_
    refine Fr.imul (by decide +kernel : zi 159 121 = some (.imul, 1)) ?_
    refine Fr.ildn (by decide +kernel : zi 159 122 = some (.iload_n 1, 1)) rfl ?_
    refine Fr.iadd (by decide +kernel : zi 159 123 = some (.iadd, 1)) ?_
    refine Fr.aldn (c := 73) (by decide +kernel : zi 159 124 = some (.aload_n 0, 1)) rfl ⟨by omega, by omega⟩ ?_
    refine Fr.gR (c := 72) (c2 := 83) (ci := 8) (k := 15) 15 (by decide +kernel : zi 159 125 = some (.getfield 42, 3)) (by decide +kernel) (by decide +kernel) (by decide +kernel) (by decide) rfl (fun q => q (72, 15, 83) (by decide +kernel)) ?_
    refine Fr.sipush (by decide +kernel : zi 159 128 = some (.sipush 1020, 3)) (by decide) ?_
    refine Fr.ildn (by decide +kernel : zi 159 131 = some (.iload_n 1, 1)) rfl ?_
    refine Fr.iadd (by decide +kernel : zi 159 132 = some (.iadd, 1)) ?_
    obtain ⟨⟨g0, g1⟩, h⟩ := h
    refine Fr.iald (c := 82) (N := 1190) (by decide +kernel : zi 159 133 = some (.iaload, 1)) (by decide +kernel) (by decide) g0 g1 ?_
    obtain ⟨⟨g0, g1⟩, h⟩ := h
    refine Fr.iast (c := 82) (N := 1190) (by decide +kernel : zi 159 134 = some (.iastore, 1)) (by decide +kernel) (by decide) g0 g1 ?_
    refine Fr.aldn (c := 73) (by decide +kernel : zi 159 135 = some (.aload_n 0, 1)) rfl ⟨by omega, by omega⟩ ?_
    refine Fr.gR (c := 72) (c2 := 84) (ci := 8) (k := 16) 16 (by decide +kernel : zi 159 136 = some (.getfield 45, 3)) (by decide +kernel) (by decide +kernel) (by decide +kernel) (by decide) rfl (fun q => q (72, 16, 84) (by decide +kernel)) ?_
    refine Fr.sipush (by decide +kernel : zi 159 139 = some (.sipush 170, 3)) (by decide) ?_
    refine Fr.aldn (c := 73) (by decide +kernel : zi 159 142 = some (.aload_n 0, 1)) rfl ⟨by omega, by omega⟩ ?_
    refine Fr.gI (c := 72) (ci := 8) (k := 13) (t := 0) 13 (by decide +kernel : zi 159 143 = some (.getfield 38, 3)) (by decide +kernel) (by decide +kernel) (by decide +kernel) (by decide) rfl ?_
    refine Fr.imul (by decide +kernel : zi 159 146 = some (.imul, 1)) ?_
    refine Fr.ildn (by decide +kernel : zi 159 147 = some (.iload_n 1, 1)) rfl ?_
    refine Fr.iadd (by decide +kernel : zi 159 148 = some (.iadd, 1)) ?_
    refine Fr.aldn (c := 73) (by decide +kernel : zi 159 149 = some (.aload_n 0, 1)) rfl ⟨by omega, by omega⟩ ?_
    refine Fr.gR (c := 72) (c2 := 84) (ci := 8) (k := 16) 16 (by decide +kernel : zi 159 150 = some (.getfield 45, 3)) (by decide +kernel) (by decide +kernel) (by decide +kernel) (by decide) rfl (fun q => q (72, 16, 84) (by decide +kernel)) ?_
    refine Fr.sipush (by decide +kernel : zi 159 153 = some (.sipush 1020, 3)) (by decide) ?_
    refine Fr.ildn (by decide +kernel : zi 159 156 = some (.iload_n 1, 1)) rfl ?_
    refine Fr.iadd (by decide +kernel : zi 159 157 = some (.iadd, 1)) ?_
    obtain ⟨⟨g0, g1⟩, h⟩ := h
    refine Fr.iald (c := 83) (N := 1190) (by decide +kernel : zi 159 158 = some (.iaload, 1)) (by decide +kernel) (by decide) g0 g1 ?_
    obtain ⟨⟨g0, g1⟩, h⟩ := h
    refine Fr.iast (c := 83) (N := 1190) (by decide +kernel : zi 159 159 = some (.iastore, 1)) (by decide +kernel) (by decide) g0 g1 ?_
    refine Fr.iinc (lv2 := [some (rf 73), some (it (zw (v1 + 1)))]) (by decide +kernel : zi 159 160 = some (.iinc 1 1, 3)) (Nat.le_of_ble_eq_true rfl) rfl rfl ?_
    refine Fr.goto (q := 102) (by decide +kernel : zi 159 163 = some (.goto (-61), 3)) (by decide +kernel) ?_
    exact h
theorem f159_168 {xs : Nat → Int} {L : Nat} {d : Nat} {v1 : Int} {s : Pl} {P : Int → Pl → Prop} (h : ((3 ≤ v1 → P (zw (((zup s 72 13 (zw ((s 72 13) + 1))) 72 13) - 1)) (zup s 72 13 (zw ((s 72 13) + 1)))) ∧ (¬ (3 ≤ v1) → (0 ≤ zw (18 + v1) ∧ zw (18 + v1) < 21) ∧ (0 ≤ zw ((zw (3 * (s 72 13))) + v1) ∧ zw ((zw (3 * (s 72 13))) + v1) < 21) ∧ Fr xs L T0 106 d 159 168 [some (rf 73), some (it (zw (v1 + 1)))] [] (zup s 84 (zw ((zw (3 * (s 72 13))) + v1)) (s 84 (zw (18 + v1)))) (qi P)))) : Fr xs L T0 106 d 159 168 [some (rf 73), some (it v1)] [] s (qi P) := by
  refine Fr.ildn (by decide +kernel : zi 159 168 = some (.iload_n 1, 1)) rfl ?_
  refine Fr.iconst (by decide +kernel : zi 159 169 = some (.iconst 3, 1)) (by decide) ?_
  refine Fr.if2 (q := 201) (by decide +kernel : zi 159 170 = some (.if_icmp .ge 31, 3)) (by decide +kernel) (fun g9 => ?_) (fun g9 => ?_)
  · have h := h.1 g9
    refine Fr.aldn (c := 73) (by decide +kernel : zi 159 201 = some (.aload_n 0, 1)) rfl ⟨by omega, by omega⟩ ?_
    refine Fr.dup (by decide +kernel : zi 159 202 = some (.dup, 1)) rfl ?_
    refine Fr.gI (c := 72) (ci := 8) (k := 13) (t := 0) 13 (by decide +kernel : zi 159 203 = some (.getfield 38, 3)) (by decide +kernel) (by decide +kernel) (by decide +kernel) (by decide) rfl ?_
    refine Fr.iconst (by decide +kernel : zi 159 206 = some (.iconst 1, 1)) (by decide) ?_
    refine Fr.iadd (by decide +kernel : zi 159 207 = some (.iadd, 1)) ?_
    refine Fr.pI (c := 72) (ci := 8) (k := 13) 13 (by decide +kernel : zi 159 208 = some (.putfield 38, 3)) (by decide +kernel) (by decide +kernel) (by decide +kernel) (by decide) rfl ?_
    refine Fr.aldn (c := 73) (by decide +kernel : zi 159 211 = some (.aload_n 0, 1)) rfl ⟨by omega, by omega⟩ ?_
    refine Fr.gI (c := 72) (ci := 8) (k := 13) (t := 0) 13 (by decide +kernel : zi 159 212 = some (.getfield 38, 3)) (by decide +kernel) (by decide +kernel) (by decide +kernel) (by decide) rfl ?_
    refine Fr.iconst (by decide +kernel : zi 159 215 = some (.iconst 1, 1)) (by decide) ?_
    refine Fr.isub (by decide +kernel : zi 159 216 = some (.isub, 1)) ?_
    exact Fr.retI (by decide +kernel : zi 159 217 = some (.ireturn, 1)) (by decide +kernel) h
  · have h := h.2 g9
    refine Fr.aldn (c := 73) (by decide +kernel : zi 159 173 = some (.aload_n 0, 1)) rfl ⟨by omega, by omega⟩ ?_
    refine Fr.gR (c := 72) (c2 := 85) (ci := 8) (k := 17) 17 (by decide +kernel : zi 159 174 = some (.getfield 48, 3)) (by decide +kernel) (by decide +kernel) (by decide +kernel) (by decide) rfl (fun q => q (72, 17, 85) (by decide +kernel)) ?_
    refine Fr.iconst (by decide +kernel : zi 159 177 = some (.iconst 3, 1)) (by decide) ?_
    refine Fr.aldn (c := 73) (by decide +kernel : zi 159 178 = some (.aload_n 0, 1)) rfl ⟨by omega, by omega⟩ ?_
    refine Fr.gI (c := 72) (ci := 8) (k := 13) (t := 0) 13 (by decide +kernel : zi 159 179 = some (.getfield 38, 3)) (by decide +kernel) (by decide +kernel) (by decide +kernel) (by decide) rfl ?_
    refine Fr.imul (by decide +kernel : zi 159 182 = some (.imul, 1)) ?_
    refine Fr.ildn (by decide +kernel : zi 159 183 = some (.iload_n 1, 1)) rfl ?_
    refine Fr.iadd (by decide +kernel : zi 159 184 = some (.iadd, 1)) ?_
    refine Fr.aldn (c := 73) (by decide +kernel : zi 159 185 = some (.aload_n 0, 1)) rfl ⟨by omega, by omega⟩ ?_
    refine Fr.gR (c := 72) (c2 := 85) (ci := 8) (k := 17) 17 (by decide +kernel : zi 159 186 = some (.getfield 48, 3)) (by decide +kernel) (by decide +kernel) (by decide +kernel) (by decide) rfl (fun q => q (72, 17, 85) (by decide +kernel)) ?_
    refine Fr.bipush (by decide +kernel : zi 159 189 = some (.bipush 18, 2)) (by decide) ?_
    refine Fr.ildn (by decide +kernel : zi 159 191 = some (.iload_n 1, 1)) rfl ?_
    refine Fr.iadd (by decide +kernel : zi 159 192 = some (.iadd, 1)) ?_
    obtain ⟨⟨g0, g1⟩, h⟩ := h
    refine Fr.iald (c := 84) (N := 21) (by decide +kernel : zi 159 193 = some (.iaload, 1)) (by decide +kernel) (by decide) g0 g1 ?_
    obtain ⟨⟨g0, g1⟩, h⟩ := h
    refine Fr.iast (c := 84) (N := 21) (by decide +kernel : zi 159 194 = some (.iastore, 1)) (by decide +kernel) (by decide) g0 g1 ?_
    refine Fr.iinc (lv2 := [some (rf 73), some (it (zw (v1 + 1)))]) (by decide +kernel : zi 159 195 = some (.iinc 1 1, 3)) (Nat.le_of_ble_eq_true rfl) rfl rfl ?_
    refine Fr.goto (q := 168) (by decide +kernel : zi 159 198 = some (.goto (-30), 3)) (by decide +kernel) ?_
    exact h
