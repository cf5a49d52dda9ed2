-- 34 X3_learn
theorem f34_0 {xs : Nat → Int} {L : Nat} {d : Nat} {t1 : Nat} {s : Pl} {P : Pl → Prop} (ht1 : t1 < 6) (h : Ev xs L T0 106 d 7 [rf 2, it 1] (zup s 57 1 ((21 + 4 * t1 + 1 : Nat) : Int)) (qi fun r2 s1 => Ev xs L T0 106 d 7 [rf 2, it 2] (zup s1 57 6 r2) (qi fun r4 s3 => Ev xs L T0 106 d 7 [rf 2, it 3] (zup s3 57 7 r4) (qi fun r6 s5 => Ev xs L T0 106 d 7 [rf 2, it 4] (zup s5 57 8 r6) (qi fun r8 s7 => Ev xs L T0 106 d 7 [rf 2, it 5] (zup s7 57 9 r8) (qi fun r10 s9 => Fr xs L T0 106 d 34 67 [some (rf 58), some (rf (21 + 4 * t1 + 1)), some (it 0), none] [] (zup s9 57 10 r10) (qv P))))))) : Fr xs L T0 106 d 34 0 [some (rf 58), some (rf (21 + 4 * t1 + 1)), none, none] [] s (qv P) := by
  refine Fr.aldn (c := 58) (by decide +kernel : zi 34 0 = some (.aload_n 0, 1)) rfl ⟨by omega, by omega⟩ ?_
  refine Fr.aldn (c := (21 + 4 * t1 + 1)) (by decide +kernel : zi 34 1 = some (.aload_n 1, 1)) rfl ⟨by omega, by omega⟩ ?_
  refine Fr.pR (c := 57) (w := (21 + 4 * t1 + 1)) (ci := 3) (k := 1) 1 (by decide +kernel : zi 34 2 = some (.putfield 34, 3)) (by decide +kernel) (by decide +kernel) (by decide +kernel) (by decide) rfl ⟨by omega, by omega⟩ (fun e he => (zlaw_ns e he).2) ?_
  refine Fr.aldn (c := 58) (by decide +kernel : zi 34 5 = some (.aload_n 0, 1)) rfl ⟨by omega, by omega⟩ ?_
  refine Fr.aldn (c := 58) (by decide +kernel : zi 34 6 = some (.aload_n 0, 1)) rfl ⟨by omega, by omega⟩ ?_
  refine Fr.gR (c := 57) (c2 := 2) (ci := 3) (k := 0) 0 (by decide +kernel : zi 34 7 = some (.getfield 30, 3)) (by decide +kernel) (by decide +kernel) (by decide +kernel) (by decide) rfl (fun q => q (57, 0, 2) (by decide +kernel)) ?_
  refine Fr.iconst (by decide +kernel : zi 34 10 = some (.iconst 1, 1)) (by decide) ?_
  refine Fr.callI (y2 := 7) (na := 2) (as := [rf 2, it 1]) (rest := [rf 58]) (by decide +kernel : zi 34 11 = some (.invokevirtual 38, 3)) rfl (by decide +kernel) (by decide +kernel) rfl rfl (zok_V rfl (by decide) (by decide +kernel) (by decide +kernel) (zrecv_c (c := 1) (by decide) (by decide +kernel)) rfl (Nat.le_of_ble_eq_true rfl)) h (fun r2 s1 h => ?_)
  refine Fr.pI (c := 57) (ci := 3) (k := 6) 6 (by decide +kernel : zi 34 14 = some (.putfield 44, 3)) (by decide +kernel) (by decide +kernel) (by decide +kernel) (by decide) rfl ?_
  refine Fr.aldn (c := 58) (by decide +kernel : zi 34 17 = some (.aload_n 0, 1)) rfl ⟨by omega, by omega⟩ ?_
  refine Fr.aldn (c := 58) (by decide +kernel : zi 34 18 = some (.aload_n 0, 1)) rfl ⟨by omega, by omega⟩ ?_
  refine Fr.gR (c := 57) (c2 := 2) (ci := 3) (k := 0) 0 (by decide +kernel : zi 34 19 = some (.getfield 30, 3)) (by decide +kernel) (by decide +kernel) (by decide +kernel) (by decide) rfl (fun q => q (57, 0, 2) (by decide +kernel)) ?_
  refine Fr.iconst (by decide +kernel : zi 34 22 = some (.iconst 2, 1)) (by decide) ?_
  refine Fr.callI (y2 := 7) (na := 2) (as := [rf 2, it 2]) (rest := [rf 58]) (by decide +kernel : zi 34 23 = some (.invokevirtual 38, 3)) rfl (by decide +kernel) (by decide +kernel) rfl rfl (zok_V rfl (by decide) (by decide +kernel) (by decide +kernel) (zrecv_c (c := 1) (by decide) (by decide +kernel)) rfl (Nat.le_of_ble_eq_true rfl)) h (fun r4 s3 h => ?_)
  refine Fr.pI (c := 57) (ci := 3) (k := 7) 7 (by decide +kernel : zi 34 26 = some (.putfield 48, 3)) (by decide +kernel) (by decide +kernel) (by decide +kernel) (by decide) rfl ?_
  refine Fr.aldn (c := 58) (by decide +kernel : zi 34 29 = some (.aload_n 0, 1)) rfl ⟨by omega, by omega⟩ ?_
  refine Fr.aldn (c := 58) (by decide +kernel : zi 34 30 = some (.aload_n 0, 1)) rfl ⟨by omega, by omega⟩ ?_
  refine Fr.gR (c := 57) (c2 := 2) (ci := 3) (k := 0) 0 (by decide +kernel : zi 34 31 = some (.getfield 30, 3)) (by decide +kernel) (by decide +kernel) (by decide +kernel) (by decide) rfl (fun q => q (57, 0, 2) (by decide +kernel)) ?_
  refine Fr.iconst (by decide +kernel : zi 34 34 = some (.iconst 3, 1)) (by decide) ?_
  refine Fr.callI (y2 := 7) (na := 2) (as := [rf 2, it 3]) (rest := [rf 58]) (by decide +kernel : zi 34 35 = some (.invokevirtual 38, 3)) rfl (by decide +kernel) (by decide +kernel) rfl rfl (zok_V rfl (by decide) (by decide +kernel) (by decide +kernel) (zrecv_c (c := 1) (by decide) (by decide +kernel)) rfl (Nat.le_of_ble_eq_true rfl)) h (fun r6 s5 h => ?_)
  refine Fr.pI (c := 57) (ci := 3) (k := 8) 8 (by decide +kernel : zi 34 38 = some (.putfield 51, 3)) (by decide +kernel) (by decide +kernel) (by decide +kernel) (by decide) rfl ?_
  refine Fr.aldn (c := 58) (by decide +kernel : zi 34 41 = some (.aload_n 0, 1)) rfl ⟨by omega, by omega⟩ ?_
  refine Fr.aldn (c := 58) (by decide +kernel : zi 34 42 = some (.aload_n 0, 1)) rfl ⟨by omega, by omega⟩ ?_
  refine Fr.gR (c := 57) (c2 := 2) (ci := 3) (k := 0) 0 (by decide +kernel : zi 34 43 = some (.getfield 30, 3)) (by decide +kernel) (by decide +kernel) (by decide +kernel) (by decide) rfl (fun q => q (57, 0, 2) (by decide +kernel)) ?_
  refine Fr.iconst (by decide +kernel : zi 34 46 = some (.iconst 4, 1)) (by decide) ?_
  refine Fr.callI (y2 := 7) (na := 2) (as := [rf 2, it 4]) (rest := [rf 58]) (by decide +kernel : zi 34 47 = some (.invokevirtual 38, 3)) rfl (by decide +kernel) (by decide +kernel) rfl rfl (zok_V rfl (by decide) (by decide +kernel) (by decide +kernel) (zrecv_c (c := 1) (by decide) (by decide +kernel)) rfl (Nat.le_of_ble_eq_true rfl)) h (fun r8 s7 h => ?_)
  refine Fr.pI (c := 57) (ci := 3) (k := 9) 9 (by decide +kernel : zi 34 50 = some (.putfield 54, 3)) (by decide +kernel) (by decide +kernel) (by decide +kernel) (by decide) rfl ?_
  refine Fr.aldn (c := 58) (by decide +kernel : zi 34 53 = some (.aload_n 0, 1)) rfl ⟨by omega, by omega⟩ ?_
  refine Fr.aldn (c := 58) (by decide +kernel : zi 34 54 = some (.aload_n 0, 1)) rfl ⟨by omega, by omega⟩ ?_
  refine Fr.gR (c := 57) (c2 := 2) (ci := 3) (k := 0) 0 (by decide +kernel : zi 34 55 = some (.getfield 30, 3)) (by decide +kernel) (by decide +kernel) (by decide +kernel) (by decide) rfl (fun q => q (57, 0, 2) (by decide +kernel)) ?_
  refine Fr.iconst (by decide +kernel : zi 34 58 = some (.iconst 5, 1)) (by decide) ?_
  refine Fr.callI (y2 := 7) (na := 2) (as := [rf 2, it 5]) (rest := [rf 58]) (by decide +kernel : zi 34 59 = some (.invokevirtual 38, 3)) rfl (by decide +kernel) (by decide +kernel) rfl rfl (zok_V rfl (by decide) (by decide +kernel) (by decide +kernel) (zrecv_c (c := 1) (by decide) (by decide +kernel)) rfl (Nat.le_of_ble_eq_true rfl)) h (fun r10 s9 h => ?_)
  refine Fr.pI (c := 57) (ci := 3) (k := 10) 10 (by decide +kernel : zi 34 62 = some (.putfield 57, 3)) (by decide +kernel) (by decide +kernel) (by decide +kernel) (by decide) rfl ?_
  refine Fr.iconst (by decide +kernel : zi 34 65 = some (.iconst 0, 1)) (by decide) ?_
  refine Fr.istn (lv2 := [some (rf 58), some (rf (21 + 4 * t1 + 1)), some (it 0), none]) (by decide +kernel : zi 34 66 = some (.istore_n 2, 1)) (Nat.le_of_ble_eq_true rfl) rfl ?_
  exact h
theorem e34 {xs : Nat → Int} {L : Nat} {d : Nat} {t1 : Nat} {s : Pl} {Q : Option AV → Pl → Prop} (hd : 1 ≤ d) (k : Fr xs L T0 106 (d - 1) 34 0 [some (rf 58), some (rf (21 + 4 * t1 + 1)), none, none] [] s Q) : Ev xs L T0 106 d 34 [rf 58, rf (21 + 4 * t1 + 1)] s Q := Ev.of (by decide) _ rfl hd k
theorem f34_67 {xs : Nat → Int} {L : Nat} {d : Nat} {t1 : Nat} {v2 : Int} {w3 : Option AV} {s : Pl} {P : Pl → Prop} (ht1 : t1 < 6) (h : ((4 ≤ v2 → Fr xs L T0 106 d 34 118 [some (rf 58), some (rf (21 + 4 * t1 + 1)), some (it 0), w3] [] s (qv P)) ∧ (¬ (4 ≤ v2) → Fr xs L T0 106 d 34 74 [some (rf 58), some (rf (21 + 4 * t1 + 1)), some (it v2), some (it 0)] [] s (qv P)))) : Fr xs L T0 106 d 34 67 [some (rf 58), some (rf (21 + 4 * t1 + 1)), some (it v2), w3] [] s (qv P) := by
  refine Fr.ildn (by decide +kernel : zi 34 67 = some (.iload_n 2, 1)) rfl ?_
  refine Fr.iconst (by decide +kernel : zi 34 68 = some (.iconst 4, 1)) (by decide) ?_
  refine Fr.if2 (q := 116) (by decide +kernel : zi 34 69 = some (.if_icmp .ge 47, 3)) (by decide +kernel) (fun g9 => ?_) (fun g9 => ?_)
  · have h := h.1 g9
    refine Fr.iconst (by decide +kernel : zi 34 116 = some (.iconst 0, 1)) (by decide) ?_
    refine Fr.istn (lv2 := [some (rf 58), some (rf (21 + 4 * t1 + 1)), some (it 0), w3]) (by decide +kernel : zi 34 117 = some (.istore_n 2, 1)) (Nat.le_of_ble_eq_true rfl) rfl ?_
    exact h
  · have h := h.2 g9
    refine Fr.iconst (by decide +kernel : zi 34 72 = some (.iconst 0, 1)) (by decide) ?_
    refine Fr.istn (lv2 := [some (rf 58), some (rf (21 + 4 * t1 + 1)), some (it v2), some (it 0)]) (by decide +kernel : zi 34 73 = some (.istore_n 3, 1)) (Nat.le_of_ble_eq_true rfl) rfl ?_
    exact h
theorem f34_74 {xs : Nat → Int} {L : Nat} {d : Nat} {t1 : Nat} {v2 : Int} {v3 : Int} {s : Pl} {P : Pl → Prop} (ht1 : t1 < 6) (h : ((4 ≤ v3 → Fr xs L T0 106 d 34 67 [some (rf 58), some (rf (21 + 4 * t1 + 1)), some (it (zw (v2 + 1))), some (it v3)] [] s (qv P)) ∧ (¬ (4 ≤ v3) → ((¬ v2 = v3 → Ev xs L T0 106 d 37 [rf 58, it v2, it v3] s (qi fun r2 s1 => Fr xs L T0 106 d 34 103 [some (rf 58), some (rf (21 + 4 * t1 + 1)), some (it v2), some (it v3)] [it r2, it (zw ((zw (4 * v2)) + v3)), rf 60] s1 (qv P))) ∧ (¬ (¬ v2 = v3) → Fr xs L T0 106 d 34 103 [some (rf 58), some (rf (21 + 4 * t1 + 1)), some (it v2), some (it v3)] [it 0, it (zw ((zw (4 * v2)) + v3)), rf 60] s (qv P)))))) : Fr xs L T0 106 d 34 74 [some (rf 58), some (rf (21 + 4 * t1 + 1)), some (it v2), some (it v3)] [] s (qv P) := by
  refine Fr.ildn (by decide +kernel : zi 34 74 = some (.iload_n 3, 1)) rfl ?_
  refine Fr.iconst (by decide +kernel : zi 34 75 = some (.iconst 4, 1)) (by decide) ?_
  refine Fr.if2 (q := 110) (by decide +kernel : zi 34 76 = some (.if_icmp .ge 34, 3)) (by decide +kernel) (fun g9 => ?_) (fun g9 => ?_)
  · have h := h.1 g9
    refine Fr.iinc (lv2 := [some (rf 58), some (rf (21 + 4 * t1 + 1)), some (it (zw (v2 + 1))), some (it v3)]) (by decide +kernel : zi 34 110 = some (.iinc 2 1, 3)) (Nat.le_of_ble_eq_true rfl) rfl rfl ?_
    refine Fr.goto (q := 67) (by decide +kernel : zi 34 113 = some (.goto (-46), 3)) (by decide +kernel) ?_
    exact h
  · have h := h.2 g9
    refine Fr.aldn (c := 58) (by decide +kernel : zi 34 79 = some (.aload_n 0, 1)) rfl ⟨by omega, by omega⟩ ?_
    refine Fr.gR (c := 57) (c2 := 60) (ci := 3) (k := 3) 3 (by decide +kernel : zi 34 80 = some (.getfield 15, 3)) (by decide +kernel) (by decide +kernel) (by decide +kernel) (by decide) rfl (fun q => q (57, 3, 60) (by decide +kernel)) ?_
    refine Fr.iconst (by decide +kernel : zi 34 83 = some (.iconst 4, 1)) (by decide) ?_
    refine Fr.ildn (by decide +kernel : zi 34 84 = some (.iload_n 2, 1)) rfl ?_
    refine Fr.imul (by decide +kernel : zi 34 85 = some (.imul, 1)) ?_
    refine Fr.ildn (by decide +kernel : zi 34 86 = some (.iload_n 3, 1)) rfl ?_
    refine Fr.iadd (by decide +kernel : zi 34 87 = some (.iadd, 1)) ?_
    refine Fr.ildn (by decide +kernel : zi 34 88 = some (.iload_n 2, 1)) rfl ?_
    refine Fr.ildn (by decide +kernel : zi 34 89 = some (.iload_n 3, 1)) rfl ?_
    refine Fr.if2 (q := 97) (by decide +kernel : zi 34 90 = some (.if_icmp .ne 7, 3)) (by decide +kernel) (fun g9 => ?_) (fun g9 => ?_)
    · have h := h.1 g9
      refine Fr.aldn (c := 58) (by decide +kernel : zi 34 97 = some (.aload_n 0, 1)) rfl ⟨by omega, by omega⟩ ?_
      refine Fr.ildn (by decide +kernel : zi 34 98 = some (.iload_n 2, 1)) rfl ?_
      refine Fr.ildn (by decide +kernel : zi 34 99 = some (.iload_n 3, 1)) rfl ?_
      refine Fr.callI (y2 := 37) (na := 3) (as := [rf 58, it v2, it v3]) (rest := [it (zw ((zw (4 * v2)) + v3)), rf 60]) (by decide +kernel : zi 34 100 = some (.invokevirtual 60, 3)) rfl (by decide +kernel) (by decide +kernel) rfl rfl (zok_V rfl (by decide) (by decide +kernel) (by decide +kernel) (zrecv_c (c := 57) (by decide) (by decide +kernel)) rfl (Nat.le_of_ble_eq_true rfl)) h (fun r2 s1 h => ?_)
      exact h
    · have h := h.2 g9
      refine Fr.iconst (by decide +kernel : zi 34 93 = some (.iconst 0, 1)) (by decide) ?_
      refine Fr.goto (q := 103) (by decide +kernel : zi 34 94 = some (.goto 9, 3)) (by decide +kernel) ?_
      exact h
theorem f34_103 {xs : Nat → Int} {L : Nat} {d : Nat} {t1 : Nat} {v2 : Int} {v3 : Int} {vs0 : Int} {vs1 : Int} {s : Pl} {P : Pl → Prop} (ht1 : t1 < 6) (h : (0 ≤ vs1 ∧ vs1 < 16) ∧ Fr xs L T0 106 d 34 74 [some (rf 58), some (rf (21 + 4 * t1 + 1)), some (it v2), some (it (zw (v3 + 1)))] [] (zup s 59 vs1 vs0) (qv P)) : Fr xs L T0 106 d 34 103 [some (rf 58), some (rf (21 + 4 * t1 + 1)), some (it v2), some (it v3)] [it vs0, it vs1, rf 60] s (qv P) := by
  obtain ⟨⟨g0, g1⟩, h⟩ := h
  refine Fr.iast (c := 59) (N := 16) (by decide +kernel : zi 34 103 = some (.iastore, 1)) (by decide +kernel) (by decide) g0 g1 ?_
  refine Fr.iinc (lv2 := [some (rf 58), some (rf (21 + 4 * t1 + 1)), some (it v2), some (it (zw (v3 + 1)))]) (by decide +kernel : zi 34 104 = some (.iinc 3 1, 3)) (Nat.le_of_ble_eq_true rfl) rfl rfl ?_
  refine Fr.goto (q := 74) (by decide +kernel : zi 34 107 = some (.goto (-33), 3)) (by decide +kernel) ?_
  exact h
theorem f34_118 {xs : Nat → Int} {L : Nat} {d : Nat} {t1 : Nat} {v2 : Int} {w3 : Option AV} {s : Pl} {P : Pl → Prop} (ht1 : t1 < 6) (h : ((s 1 1 ≤ v2 → P s) ∧ (¬ (s 1 1 ≤ v2) → ((6 ≤ v2 → P s) ∧ (¬ (6 ≤ v2) → Fr xs L T0 106 d 34 137 [some (rf 58), some (rf (21 + 4 * t1 + 1)), some (it v2), some (it 0)] [] s (qv P)))))) : Fr xs L T0 106 d 34 118 [some (rf 58), some (rf (21 + 4 * t1 + 1)), some (it v2), w3] [] s (qv P) := by
  refine Fr.ildn (by decide +kernel : zi 34 118 = some (.iload_n 2, 1)) rfl ?_
  refine Fr.aldn (c := 58) (by decide +kernel : zi 34 119 = some (.aload_n 0, 1)) rfl ⟨by omega, by omega⟩ ?_
  refine Fr.gR (c := 57) (c2 := 2) (ci := 3) (k := 0) 0 (by decide +kernel : zi 34 120 = some (.getfield 30, 3)) (by decide +kernel) (by decide +kernel) (by decide +kernel) (by decide) rfl (fun q => q (57, 0, 2) (by decide +kernel)) ?_
  refine Fr.gI (c := 1) (ci := 0) (k := 1) (t := 0) 1 (by decide +kernel : zi 34 123 = some (.getfield 64, 3)) (by decide +kernel) (by decide +kernel) (by decide +kernel) (by decide) rfl ?_
  refine Fr.if2 (q := 192) (by decide +kernel : zi 34 126 = some (.if_icmp .ge 66, 3)) (by decide +kernel) (fun g9 => ?_) (fun g9 => ?_)
  · have h := h.1 g9
    exact Fr.retV (by decide +kernel : zi 34 192 = some (.return_, 1)) (by decide +kernel) h
  · have h := h.2 g9
    refine Fr.ildn (by decide +kernel : zi 34 129 = some (.iload_n 2, 1)) rfl ?_
    refine Fr.bipush (by decide +kernel : zi 34 130 = some (.bipush 6, 2)) (by decide) ?_
    refine Fr.if2 (q := 192) (by decide +kernel : zi 34 132 = some (.if_icmp .ge 60, 3)) (by decide +kernel) (fun g9 => ?_) (fun g9 => ?_)
    · have h := h.1 g9
      exact Fr.retV (by decide +kernel : zi 34 192 = some (.return_, 1)) (by decide +kernel) h
    · have h := h.2 g9
      refine Fr.iconst (by decide +kernel : zi 34 135 = some (.iconst 0, 1)) (by decide) ?_
      refine Fr.istn (lv2 := [some (rf 58), some (rf (21 + 4 * t1 + 1)), some (it v2), some (it 0)]) (by decide +kernel : zi 34 136 = some (.istore_n 3, 1)) (Nat.le_of_ble_eq_true rfl) rfl ?_
      exact h
theorem f34_137 {xs : Nat → Int} {L : Nat} {d : Nat} {t1 : Nat} {v2 : Int} {v3 : Int} {s : Pl} {P : Pl → Prop} (ht1 : t1 < 6) (h : ((s 1 1 ≤ v3 → Fr xs L T0 106 d 34 186 [some (rf 58), some (rf (21 + 4 * t1 + 1)), some (it v2), some (it v3)] [] s (qv P)) ∧ (¬ (s 1 1 ≤ v3) → ((6 ≤ v3 → Fr xs L T0 106 d 34 186 [some (rf 58), some (rf (21 + 4 * t1 + 1)), some (it v2), some (it v3)] [] s (qv P)) ∧ (¬ (6 ≤ v3) → ((¬ v2 = v3 → Ev xs L T0 106 d 35 [rf 58, it v2, it v3] s (qi fun r2 s1 => Fr xs L T0 106 d 34 179 [some (rf 58), some (rf (21 + 4 * t1 + 1)), some (it v2), some (it v3)] [it r2, it (zw ((zw (6 * v2)) + v3)), rf 62] s1 (qv P))) ∧ (¬ (¬ v2 = v3) → Fr xs L T0 106 d 34 179 [some (rf 58), some (rf (21 + 4 * t1 + 1)), some (it v2), some (it v3)] [it 0, it (zw ((zw (6 * v2)) + v3)), rf 62] s (qv P)))))))) : Fr xs L T0 106 d 34 137 [some (rf 58), some (rf (21 + 4 * t1 + 1)), some (it v2), some (it v3)] [] s (qv P) := by
  refine Fr.ildn (by decide +kernel : zi 34 137 = some (.iload_n 3, 1)) rfl ?_
  refine Fr.aldn (c := 58) (by decide +kernel : zi 34 138 = some (.aload_n 0, 1)) rfl ⟨by omega, by omega⟩ ?_
  refine Fr.gR (c := 57) (c2 := 2) (ci := 3) (k := 0) 0 (by decide +kernel : zi 34 139 = some (.getfield 30, 3)) (by decide +kernel) (by decide +kernel) (by decide +kernel) (by decide) rfl (fun q => q (57, 0, 2) (by decide +kernel)) ?_
  refine Fr.gI (c := 1) (ci := 0) (k := 1) (t := 0) 1 (by decide +kernel : zi 34 142 = some (.getfield 64, 3)) (by decide +kernel) (by decide +kernel) (by decide +kernel) (by decide) rfl ?_
  refine Fr.if2 (q := 186) (by decide +kernel : zi 34 145 = some (.if_icmp .ge 41, 3)) (by decide +kernel) (fun g9 => ?_) (fun g9 => ?_)
  · have h := h.1 g9
    exact h
  · have h := h.2 g9
    refine Fr.ildn (by decide +kernel : zi 34 148 = some (.iload_n 3, 1)) rfl ?_
    refine Fr.bipush (by decide +kernel : zi 34 149 = some (.bipush 6, 2)) (by decide) ?_
    refine Fr.if2 (q := 186) (by decide +kernel : zi 34 151 = some (.if_icmp .ge 35, 3)) (by decide +kernel) (fun g9 => ?_) (fun g9 => ?_)
    · have h := h.1 g9
      exact h
    · have h := h.2 g9
      refine Fr.aldn (c := 58) (by decide +kernel : zi 34 154 = some (.aload_n 0, 1)) rfl ⟨by omega, by omega⟩ ?_
      refine Fr.gR (c := 57) (c2 := 62) (ci := 3) (k := 5) 5 (by decide +kernel : zi 34 155 = some (.getfield 21, 3)) (by decide +kernel) (by decide +kernel) (by decide +kernel) (by decide) rfl (fun q => q (57, 5, 62) (by decide +kernel)) ?_
      refine Fr.bipush (by decide +kernel : zi 34 158 = some (.bipush 6, 2)) (by decide) ?_
      refine Fr.ildn (by decide +kernel : zi 34 160 = some (.iload_n 2, 1)) rfl ?_
      refine Fr.imul (by decide +kernel : zi 34 161 = some (.imul, 1)) ?_
      refine Fr.ildn (by decide +kernel : zi 34 162 = some (.iload_n 3, 1)) rfl ?_
      refine Fr.iadd (by decide +kernel : zi 34 163 = some (.iadd, 1)) ?_
      refine Fr.ildn (by decide +kernel : zi 34 164 = some (.iload_n 2, 1)) rfl ?_
      refine Fr.ildn (by decide +kernel : zi 34 165 = some (.iload_n 3, 1)) rfl ?_
      refine Fr.if2 (q := 173) (by decide +kernel : zi 34 166 = some (.if_icmp .ne 7, 3)) (by decide +kernel) (fun g9 => ?_) (fun g9 => ?_)
      · have h := h.1 g9
        refine Fr.aldn (c := 58) (by decide +kernel : zi 34 173 = some (.aload_n 0, 1)) rfl ⟨by omega, by omega⟩ ?_
        refine Fr.ildn (by decide +kernel : zi 34 174 = some (.iload_n 2, 1)) rfl ?_
        refine Fr.ildn (by decide +kernel : zi 34 175 = some (.iload_n 3, 1)) rfl ?_
        refine Fr.callI (y2 := 35) (na := 3) (as := [rf 58, it v2, it v3]) (rest := [it (zw ((zw (6 * v2)) + v3)), rf 62]) (by decide +kernel : zi 34 176 = some (.invokevirtual 67, 3)) rfl (by decide +kernel) (by decide +kernel) rfl rfl (zok_V rfl (by decide) (by decide +kernel) (by decide +kernel) (zrecv_c (c := 57) (by decide) (by decide +kernel)) rfl (Nat.le_of_ble_eq_true rfl)) h (fun r2 s1 h => ?_)
        exact h
      · have h := h.2 g9
        refine Fr.iconst (by decide +kernel : zi 34 169 = some (.iconst 0, 1)) (by decide) ?_
        refine Fr.goto (q := 179) (by decide +kernel : zi 34 170 = some (.goto 9, 3)) (by decide +kernel) ?_
        exact h
theorem f34_179 {xs : Nat → Int} {L : Nat} {d : Nat} {t1 : Nat} {v2 : Int} {v3 : Int} {vs0 : Int} {vs1 : Int} {s : Pl} {P : Pl → Prop} (ht1 : t1 < 6) (h : (0 ≤ vs1 ∧ vs1 < 36) ∧ Fr xs L T0 106 d 34 137 [some (rf 58), some (rf (21 + 4 * t1 + 1)), some (it v2), some (it (zw (v3 + 1)))] [] (zup s 61 vs1 vs0) (qv P)) : Fr xs L T0 106 d 34 179 [some (rf 58), some (rf (21 + 4 * t1 + 1)), some (it v2), some (it v3)] [it vs0, it vs1, rf 62] s (qv P) := by
  obtain ⟨⟨g0, g1⟩, h⟩ := h
  refine Fr.iast (c := 61) (N := 36) (by decide +kernel : zi 34 179 = some (.iastore, 1)) (by decide +kernel) (by decide) g0 g1 ?_
  refine Fr.iinc (lv2 := [some (rf 58), some (rf (21 + 4 * t1 + 1)), some (it v2), some (it (zw (v3 + 1)))]) (by decide +kernel : zi 34 180 = some (.iinc 3 1, 3)) (Nat.le_of_ble_eq_true rfl) rfl rfl ?_
  refine Fr.goto (q := 137) (by decide +kernel : zi 34 183 = some (.goto (-46), 3)) (by decide +kernel) ?_
  exact h
theorem f34_186 {xs : Nat → Int} {L : Nat} {d : Nat} {t1 : Nat} {v2 : Int} {v3 : Int} {s : Pl} {P : Pl → Prop} (ht1 : t1 < 6) (h : Fr xs L T0 106 d 34 118 [some (rf 58), some (rf (21 + 4 * t1 + 1)), some (it (zw (v2 + 1))), some (it v3)] [] s (qv P)) : Fr xs L T0 106 d 34 186 [some (rf 58), some (rf (21 + 4 * t1 + 1)), some (it v2), some (it v3)] [] s (qv P) := by
  refine Fr.iinc (lv2 := [some (rf 58), some (rf (21 + 4 * t1 + 1)), some (it (zw (v2 + 1))), some (it v3)]) (by decide +kernel : zi 34 186 = some (.iinc 2 1, 3)) (Nat.le_of_ble_eq_true rfl) rfl rfl ?_
  refine Fr.goto (q := 118) (by decide +kernel : zi 34 189 = some (.goto (-71), 3)) (by decide +kernel) ?_
  exact h
-- 35 X3_landingsFor
theorem f35_0 {xs : Nat → Int} {L : Nat} {d : Nat} {v1 : Int} {v2 : Int} {s : Pl} {P : Int → Pl → Prop} (h : Fr xs L T0 106 d 35 5 [some (rf 58), some (it v1), some (it v2), some (it 0), some (it 0)] [] s (qi P)) : Fr xs L T0 106 d 35 0 [some (rf 58), some (it v1), some (it v2), none, none] [] s (qi P) := by
  refine Fr.iconst (by decide +kernel : zi 35 0 = some (.iconst 0, 1)) (by decide) ?_
  refine Fr.istn (lv2 := [some (rf 58), some (it v1), some (it v2), some (it 0), none]) (by decide +kernel : zi 35 1 = some (.istore_n 3, 1)) (Nat.le_of_ble_eq_true rfl) rfl ?_
  refine Fr.iconst (by decide +kernel : zi 35 2 = some (.iconst 0, 1)) (by decide) ?_
  refine Fr.ist (lv2 := [some (rf 58), some (it v1), some (it v2), some (it 0), some (it 0)]) (by decide +kernel : zi 35 3 = some (.istore 4, 2)) (Nat.le_of_ble_eq_true rfl) rfl ?_
  exact h
theorem e35 {xs : Nat → Int} {L : Nat} {d : Nat} {v1 : Int} {v2 : Int} {s : Pl} {Q : Option AV → Pl → Prop} (hd : 1 ≤ d) (k : Fr xs L T0 106 (d - 1) 35 0 [some (rf 58), some (it v1), some (it v2), none, none] [] s Q) : Ev xs L T0 106 d 35 [rf 58, it v1, it v2] s Q := Ev.of (by decide) _ rfl hd k
theorem f35_5 {xs : Nat → Int} {L : Nat} {d : Nat} {v1 : Int} {v2 : Int} {v3 : Int} {v4 : Int} {s : Pl} {P : Int → Pl → Prop} (h : ((4 ≤ v4 → P v3 s) ∧ (¬ (4 ≤ v4) → Ev xs L T0 106 d 36 [rf 58, it v1, it v2, it v4] s (qi fun r2 s1 => ((r2 = 0 → Fr xs L T0 106 d 35 29 [some (rf 58), some (it v1), some (it v2), some (it v3), some (it v4)] [] s1 (qi P)) ∧ (¬ (r2 = 0) → Fr xs L T0 106 d 35 29 [some (rf 58), some (it v1), some (it v2), some (it (zor v3 (zshl 1 v4))), some (it v4)] [] s1 (qi P))))))) : Fr xs L T0 106 d 35 5 [some (rf 58), some (it v1), some (it v2), some (it v3), some (it v4)] [] s (qi P) := by
  refine Fr.ild (by decide +kernel : zi 35 5 = some (.iload 4, 2)) rfl ?_
  refine Fr.iconst (by decide +kernel : zi 35 7 = some (.iconst 4, 1)) (by decide) ?_
  refine Fr.if2 (q := 35) (by decide +kernel : zi 35 8 = some (.if_icmp .ge 27, 3)) (by decide +kernel) (fun g9 => ?_) (fun g9 => ?_)
  · have h := h.1 g9
    refine Fr.ildn (by decide +kernel : zi 35 35 = some (.iload_n 3, 1)) rfl ?_
    exact Fr.retI (by decide +kernel : zi 35 36 = some (.ireturn, 1)) (by decide +kernel) h
  · have h := h.2 g9
    refine Fr.aldn (c := 58) (by decide +kernel : zi 35 11 = some (.aload_n 0, 1)) rfl ⟨by omega, by omega⟩ ?_
    refine Fr.ildn (by decide +kernel : zi 35 12 = some (.iload_n 1, 1)) rfl ?_
    refine Fr.ildn (by decide +kernel : zi 35 13 = some (.iload_n 2, 1)) rfl ?_
    refine Fr.ild (by decide +kernel : zi 35 14 = some (.iload 4, 2)) rfl ?_
    refine Fr.callI (y2 := 36) (na := 4) (as := [rf 58, it v1, it v2, it v4]) (rest := []) (by decide +kernel : zi 35 16 = some (.invokevirtual 70, 3)) rfl (by decide +kernel) (by decide +kernel) rfl rfl (zok_V rfl (by decide) (by decide +kernel) (by decide +kernel) (zrecv_c (c := 57) (by decide) (by decide +kernel)) rfl (Nat.le_of_ble_eq_true rfl)) h (fun r2 s1 h => ?_)
    refine Fr.if0 (q := 29) (by decide +kernel : zi 35 19 = some (.ifCond .eq 10, 3)) (by decide +kernel) (fun g9 => ?_) (fun g9 => ?_)
    · have h := h.1 g9
      exact h
    · have h := h.2 g9
      refine Fr.ildn (by decide +kernel : zi 35 22 = some (.iload_n 3, 1)) rfl ?_
      refine Fr.iconst (by decide +kernel : zi 35 23 = some (.iconst 1, 1)) (by decide) ?_
      refine Fr.ild (by decide +kernel : zi 35 24 = some (.iload 4, 2)) rfl ?_
      refine Fr.ishl (by decide +kernel : zi 35 26 = some (.ishl, 1)) ?_
      refine Fr.ior (by decide +kernel : zi 35 27 = some (.ior, 1)) ?_
      refine Fr.istn (lv2 := [some (rf 58), some (it v1), some (it v2), some (it (zor v3 (zshl 1 v4))), some (it v4)]) (by decide +kernel : zi 35 28 = some (.istore_n 3, 1)) (Nat.le_of_ble_eq_true rfl) rfl ?_
      exact h
theorem f35_29 {xs : Nat → Int} {L : Nat} {d : Nat} {v1 : Int} {v2 : Int} {v3 : Int} {v4 : Int} {s : Pl} {P : Int → Pl → Prop} (h : Fr xs L T0 106 d 35 5 [some (rf 58), some (it v1), some (it v2), some (it v3), some (it (zw (v4 + 1)))] [] s (qi P)) : Fr xs L T0 106 d 35 29 [some (rf 58), some (it v1), some (it v2), some (it v3), some (it v4)] [] s (qi P) := by
  refine Fr.iinc (lv2 := [some (rf 58), some (it v1), some (it v2), some (it v3), some (it (zw (v4 + 1)))]) (by decide +kernel : zi 35 29 = some (.iinc 4 1, 3)) (Nat.le_of_ble_eq_true rfl) rfl rfl ?_
  refine Fr.goto (q := 5) (by decide +kernel : zi 35 32 = some (.goto (-27), 3)) (by decide +kernel) ?_
  exact h
-- 36 X3_mayOf
theorem f36_0 {xs : Nat → Int} {L : Nat} {d : Nat} {v1 : Int} {v2 : Int} {v3 : Int} {s : Pl} {P : Int → Pl → Prop} (h : Ev xs L T0 106 d 39 [rf 58, it v1, it v2, it v3, it 0, it 0, it 0] s (qv fun s1 => ∃ tq2 : Nat, tq2 < 6 ∧ s1 57 1 = ((21 + 4 * tq2 + 1 : Nat) : Int) ∧ Ev xs L T0 106 d 13 [rf (21 + 4 * tq2 + 1), it 0, rf 59] s1 (qi fun r4 s3 => ((r4 = 0 → P 0 s3) ∧ (¬ (r4 = 0) → P 1 s3))))) : Fr xs L T0 106 d 36 0 [some (rf 58), some (it v1), some (it v2), some (it v3)] [] s (qi P) := by
  refine Fr.aldn (c := 58) (by decide +kernel : zi 36 0 = some (.aload_n 0, 1)) rfl ⟨by omega, by omega⟩ ?_
  refine Fr.ildn (by decide +kernel : zi 36 1 = some (.iload_n 1, 1)) rfl ?_
  refine Fr.ildn (by decide +kernel : zi 36 2 = some (.iload_n 2, 1)) rfl ?_
  refine Fr.ildn (by decide +kernel : zi 36 3 = some (.iload_n 3, 1)) rfl ?_
  refine Fr.iconst (by decide +kernel : zi 36 4 = some (.iconst 0, 1)) (by decide) ?_
  refine Fr.iconst (by decide +kernel : zi 36 5 = some (.iconst 0, 1)) (by decide) ?_
  refine Fr.iconst (by decide +kernel : zi 36 6 = some (.iconst 0, 1)) (by decide) ?_
  refine Fr.callV (y2 := 39) (na := 7) (as := [rf 58, it v1, it v2, it v3, it 0, it 0, it 0]) (rest := []) (by decide +kernel : zi 36 7 = some (.invokevirtual 74, 3)) rfl (by decide +kernel) (by decide +kernel) rfl rfl (zok_V rfl (by decide) (by decide +kernel) (by decide +kernel) (zrecv_c (c := 57) (by decide) (by decide +kernel)) rfl (Nat.le_of_ble_eq_true rfl)) h (fun s1 h => ?_)
  refine Fr.aldn (c := 58) (by decide +kernel : zi 36 10 = some (.aload_n 0, 1)) rfl ⟨by omega, by omega⟩ ?_
  obtain ⟨tq2, htq2, g0, h⟩ := h
  refine Fr.gR (c := 57) (c2 := (21 + 4 * tq2 + 1)) (ci := 3) (k := 1) 1 (by decide +kernel : zi 36 11 = some (.getfield 34, 3)) (by decide +kernel) (by decide +kernel) (by decide +kernel) (by decide) rfl (fun _ => g0) ?_
  refine Fr.iconst (by decide +kernel : zi 36 14 = some (.iconst 0, 1)) (by decide) ?_
  refine Fr.aldn (c := 58) (by decide +kernel : zi 36 15 = some (.aload_n 0, 1)) rfl ⟨by omega, by omega⟩ ?_
  refine Fr.gR (c := 57) (c2 := 59) (ci := 3) (k := 2) 2 (by decide +kernel : zi 36 16 = some (.getfield 9, 3)) (by decide +kernel) (by decide +kernel) (by decide +kernel) (by decide) rfl (fun q => q (57, 2, 59) (by decide +kernel)) ?_
  refine Fr.callI (y2 := 13) (na := 3) (as := [rf (21 + 4 * tq2 + 1), it 0, rf 59]) (rest := []) (by decide +kernel : zi 36 19 = some (.invokevirtual 78, 3)) rfl (by decide +kernel) (by decide +kernel) rfl rfl (zok_V rfl (by decide) (by decide +kernel) (by decide +kernel) (zrecv_c (c := (21 + 4 * tq2)) (by omega) (by rw [(zlaw_sh _ htq2).1]; decide +kernel)) rfl (Nat.le_of_ble_eq_true rfl)) h (fun r4 s3 h => ?_)
  refine Fr.if0 (q := 29) (by decide +kernel : zi 36 22 = some (.ifCond .eq 7, 3)) (by decide +kernel) (fun g9 => ?_) (fun g9 => ?_)
  · have h := h.1 g9
    refine Fr.iconst (by decide +kernel : zi 36 29 = some (.iconst 0, 1)) (by decide) ?_
    exact Fr.retZ (by decide +kernel : zi 36 30 = some (.ireturn, 1)) (by decide +kernel) (by decide) h
  · have h := h.2 g9
    refine Fr.iconst (by decide +kernel : zi 36 25 = some (.iconst 1, 1)) (by decide) ?_
    refine Fr.goto (q := 30) (by decide +kernel : zi 36 26 = some (.goto 4, 3)) (by decide +kernel) ?_
    exact Fr.retZ (by decide +kernel : zi 36 30 = some (.ireturn, 1)) (by decide +kernel) (by decide) h
theorem e36 {xs : Nat → Int} {L : Nat} {d : Nat} {v1 : Int} {v2 : Int} {v3 : Int} {s : Pl} {Q : Option AV → Pl → Prop} (hd : 1 ≤ d) (k : Fr xs L T0 106 (d - 1) 36 0 [some (rf 58), some (it v1), some (it v2), some (it v3)] [] s Q) : Ev xs L T0 106 d 36 [rf 58, it v1, it v2, it v3] s Q := Ev.of (by decide) _ rfl hd k
-- 37 X3_rowOf
theorem f37_0 {xs : Nat → Int} {L : Nat} {d : Nat} {v1 : Int} {v2 : Int} {s : Pl} {P : Int → Pl → Prop} (h : Ev xs L T0 106 d 126 [it v1] s (qi fun r2 s1 => ((r2 = 0 → P 1 s1) ∧ (¬ (r2 = 0) → Ev xs L T0 106 d 126 [it v2] s1 (qi fun r4 s3 => ((¬ r4 = 0 → (0 ≤ zw ((zw (4 * v1)) + v2) ∧ zw ((zw (4 * v1)) + v2) < 16) ∧ Ev xs L T0 106 d 39 [rf 58, it v1, it v2, it 0, it (s3 9 (zw ((zw (4 * v1)) + v2))), it 0, it 0] s3 (qv fun s5 => ∃ tq6 : Nat, tq6 < 6 ∧ s5 57 1 = ((21 + 4 * tq6 + 1 : Nat) : Int) ∧ Ev xs L T0 106 d 13 [rf (21 + 4 * tq6 + 1), it 1, rf 59] s5 (qi fun r8 s7 => Ev xs L T0 106 d 231 [it 99, it r8] s7 (qi fun r10 s9 => Ev xs L T0 106 d 230 [it 1, it r10] s9 (qi fun r12 s11 => P r12 s11))))) ∧ (¬ (¬ r4 = 0) → P 1 s3))))))) : Fr xs L T0 106 d 37 0 [some (rf 58), some (it v1), some (it v2)] [] s (qi P) := by
  refine Fr.ildn (by decide +kernel : zi 37 0 = some (.iload_n 1, 1)) rfl ?_
  refine Fr.callI (y2 := 126) (na := 1) (as := [it v1]) (rest := []) (by decide +kernel : zi 37 1 = some (.invokestatic 84, 3)) rfl (by decide +kernel) (by decide +kernel) rfl rfl (zok_S rfl (by decide) (by decide +kernel) rfl (Nat.le_of_ble_eq_true rfl)) h (fun r2 s1 h => ?_)
  refine Fr.if0 (q := 14) (by decide +kernel : zi 37 4 = some (.ifCond .eq 10, 3)) (by decide +kernel) (fun g9 => ?_) (fun g9 => ?_)
  · have h := h.1 g9
    refine Fr.iconst (by decide +kernel : zi 37 14 = some (.iconst 1, 1)) (by decide) ?_
    exact Fr.retI (by decide +kernel : zi 37 15 = some (.ireturn, 1)) (by decide +kernel) h
  · have h := h.2 g9
    refine Fr.ildn (by decide +kernel : zi 37 7 = some (.iload_n 2, 1)) rfl ?_
    refine Fr.callI (y2 := 126) (na := 1) (as := [it v2]) (rest := []) (by decide +kernel : zi 37 8 = some (.invokestatic 84, 3)) rfl (by decide +kernel) (by decide +kernel) rfl rfl (zok_S rfl (by decide) (by decide +kernel) rfl (Nat.le_of_ble_eq_true rfl)) h (fun r4 s3 h => ?_)
    refine Fr.if0 (q := 16) (by decide +kernel : zi 37 11 = some (.ifCond .ne 5, 3)) (by decide +kernel) (fun g9 => ?_) (fun g9 => ?_)
    · have h := h.1 g9
      refine Fr.aldn (c := 58) (by decide +kernel : zi 37 16 = some (.aload_n 0, 1)) rfl ⟨by omega, by omega⟩ ?_
      refine Fr.ildn (by decide +kernel : zi 37 17 = some (.iload_n 1, 1)) rfl ?_
      refine Fr.ildn (by decide +kernel : zi 37 18 = some (.iload_n 2, 1)) rfl ?_
      refine Fr.iconst (by decide +kernel : zi 37 19 = some (.iconst 0, 1)) (by decide) ?_
      refine Fr.aldn (c := 58) (by decide +kernel : zi 37 20 = some (.aload_n 0, 1)) rfl ⟨by omega, by omega⟩ ?_
      refine Fr.gR (c := 57) (c2 := 2) (ci := 3) (k := 0) 0 (by decide +kernel : zi 37 21 = some (.getfield 30, 3)) (by decide +kernel) (by decide +kernel) (by decide +kernel) (by decide) rfl (fun q => q (57, 0, 2) (by decide +kernel)) ?_
      refine Fr.gR (c := 1) (c2 := 10) (ci := 0) (k := 10) 10 (by decide +kernel : zi 37 24 = some (.getfield 88, 3)) (by decide +kernel) (by decide +kernel) (by decide +kernel) (by decide) rfl (fun q => q (1, 10, 10) (by decide +kernel)) ?_
      refine Fr.iconst (by decide +kernel : zi 37 27 = some (.iconst 4, 1)) (by decide) ?_
      refine Fr.ildn (by decide +kernel : zi 37 28 = some (.iload_n 1, 1)) rfl ?_
      refine Fr.imul (by decide +kernel : zi 37 29 = some (.imul, 1)) ?_
      refine Fr.ildn (by decide +kernel : zi 37 30 = some (.iload_n 2, 1)) rfl ?_
      refine Fr.iadd (by decide +kernel : zi 37 31 = some (.iadd, 1)) ?_
      obtain ⟨⟨g0, g1⟩, h⟩ := h
      refine Fr.iald (c := 9) (N := 16) (by decide +kernel : zi 37 32 = some (.iaload, 1)) (by decide +kernel) (by decide) g0 g1 ?_
      refine Fr.iconst (by decide +kernel : zi 37 33 = some (.iconst 0, 1)) (by decide) ?_
      refine Fr.iconst (by decide +kernel : zi 37 34 = some (.iconst 0, 1)) (by decide) ?_
      refine Fr.callV (y2 := 39) (na := 7) (as := [rf 58, it v1, it v2, it 0, it (s3 9 (zw ((zw (4 * v1)) + v2))), it 0, it 0]) (rest := []) (by decide +kernel : zi 37 35 = some (.invokevirtual 74, 3)) rfl (by decide +kernel) (by decide +kernel) rfl rfl (zok_V rfl (by decide) (by decide +kernel) (by decide +kernel) (zrecv_c (c := 57) (by decide) (by decide +kernel)) rfl (Nat.le_of_ble_eq_true rfl)) h (fun s5 h => ?_)
      refine Fr.iconst (by decide +kernel : zi 37 38 = some (.iconst 1, 1)) (by decide) ?_
      refine Fr.bipush (by decide +kernel : zi 37 39 = some (.bipush 99, 2)) (by decide) ?_
      refine Fr.aldn (c := 58) (by decide +kernel : zi 37 41 = some (.aload_n 0, 1)) rfl ⟨by omega, by omega⟩ ?_
      obtain ⟨tq6, htq6, g0, h⟩ := h
      refine Fr.gR (c := 57) (c2 := (21 + 4 * tq6 + 1)) (ci := 3) (k := 1) 1 (by decide +kernel : zi 37 42 = some (.getfield 34, 3)) (by decide +kernel) (by decide +kernel) (by decide +kernel) (by decide) rfl (fun _ => g0) ?_
      refine Fr.iconst (by decide +kernel : zi 37 45 = some (.iconst 1, 1)) (by decide) ?_
      refine Fr.aldn (c := 58) (by decide +kernel : zi 37 46 = some (.aload_n 0, 1)) rfl ⟨by omega, by omega⟩ ?_
      refine Fr.gR (c := 57) (c2 := 59) (ci := 3) (k := 2) 2 (by decide +kernel : zi 37 47 = some (.getfield 9, 3)) (by decide +kernel) (by decide +kernel) (by decide +kernel) (by decide) rfl (fun q => q (57, 2, 59) (by decide +kernel)) ?_
      refine Fr.callI (y2 := 13) (na := 3) (as := [rf (21 + 4 * tq6 + 1), it 1, rf 59]) (rest := [it 99, it 1]) (by decide +kernel : zi 37 50 = some (.invokevirtual 78, 3)) rfl (by decide +kernel) (by decide +kernel) rfl rfl (zok_V rfl (by decide) (by decide +kernel) (by decide +kernel) (zrecv_c (c := (21 + 4 * tq6)) (by omega) (by rw [(zlaw_sh _ htq6).1]; decide +kernel)) rfl (Nat.le_of_ble_eq_true rfl)) h (fun r8 s7 h => ?_)
      refine Fr.callI (y2 := 231) (na := 2) (as := [it 99, it r8]) (rest := [it 1]) (by decide +kernel : zi 37 53 = some (.invokestatic 91, 3)) rfl (by decide +kernel) (by decide +kernel) rfl rfl (zok_S rfl (by decide) (by decide +kernel) rfl (Nat.le_of_ble_eq_true rfl)) h (fun r10 s9 h => ?_)
      refine Fr.callI (y2 := 230) (na := 2) (as := [it 1, it r10]) (rest := []) (by decide +kernel : zi 37 56 = some (.invokestatic 96, 3)) rfl (by decide +kernel) (by decide +kernel) rfl rfl (zok_S rfl (by decide) (by decide +kernel) rfl (Nat.le_of_ble_eq_true rfl)) h (fun r12 s11 h => ?_)
      exact Fr.retI (by decide +kernel : zi 37 59 = some (.ireturn, 1)) (by decide +kernel) h
    · have h := h.2 g9
      refine Fr.iconst (by decide +kernel : zi 37 14 = some (.iconst 1, 1)) (by decide) ?_
      exact Fr.retI (by decide +kernel : zi 37 15 = some (.ireturn, 1)) (by decide +kernel) h
theorem e37 {xs : Nat → Int} {L : Nat} {d : Nat} {v1 : Int} {v2 : Int} {s : Pl} {Q : Option AV → Pl → Prop} (hd : 1 ≤ d) (k : Fr xs L T0 106 (d - 1) 37 0 [some (rf 58), some (it v1), some (it v2)] [] s Q) : Ev xs L T0 106 d 37 [rf 58, it v1, it v2] s Q := Ev.of (by decide) _ rfl hd k
-- 38 X3_gainOf
theorem f38_0 {xs : Nat → Int} {L : Nat} {d : Nat} {v1 : Int} {v2 : Int} {s : Pl} {P : Int → Pl → Prop} (h : Ev xs L T0 106 d 2 [rf 2, it v1] s (qi fun r2 s1 => ((¬ r2 = 0 → (0 ≤ v1 ∧ v1 < 6) ∧ (0 ≤ v1 ∧ v1 < 6) ∧ (0 ≤ v1 ∧ v1 < 6) ∧ Ev xs L T0 106 d 39 [rf 58, it v1, it 0, it (s1 4 v1), it (s1 6 v1), it v2, it (s1 5 v1)] s1 (qv fun s3 => ∃ tq4 : Nat, tq4 < 6 ∧ s3 57 1 = ((21 + 4 * tq4 + 1 : Nat) : Int) ∧ Ev xs L T0 106 d 13 [rf (21 + 4 * tq4 + 1), it 2, rf 59] s3 (qi fun r6 s5 => Ev xs L T0 106 d 231 [it 999, it r6] s5 (qi fun r8 s7 => Ev xs L T0 106 d 230 [it 0, it r8] s7 (qi fun r10 s9 => P r10 s9))))) ∧ (¬ (¬ r2 = 0) → P 0 s1)))) : Fr xs L T0 106 d 38 0 [some (rf 58), some (it v1), some (it v2)] [] s (qi P) := by
  refine Fr.aldn (c := 58) (by decide +kernel : zi 38 0 = some (.aload_n 0, 1)) rfl ⟨by omega, by omega⟩ ?_
  refine Fr.gR (c := 57) (c2 := 2) (ci := 3) (k := 0) 0 (by decide +kernel : zi 38 1 = some (.getfield 30, 3)) (by decide +kernel) (by decide +kernel) (by decide +kernel) (by decide) rfl (fun q => q (57, 0, 2) (by decide +kernel)) ?_
  refine Fr.ildn (by decide +kernel : zi 38 4 = some (.iload_n 1, 1)) rfl ?_
  refine Fr.callI (y2 := 2) (na := 2) (as := [rf 2, it v1]) (rest := []) (by decide +kernel : zi 38 5 = some (.invokevirtual 99, 3)) rfl (by decide +kernel) (by decide +kernel) rfl rfl (zok_V rfl (by decide) (by decide +kernel) (by decide +kernel) (zrecv_c (c := 1) (by decide) (by decide +kernel)) rfl (Nat.le_of_ble_eq_true rfl)) h (fun r2 s1 h => ?_)
  refine Fr.if0 (q := 13) (by decide +kernel : zi 38 8 = some (.ifCond .ne 5, 3)) (by decide +kernel) (fun g9 => ?_) (fun g9 => ?_)
  · have h := h.1 g9
    refine Fr.aldn (c := 58) (by decide +kernel : zi 38 13 = some (.aload_n 0, 1)) rfl ⟨by omega, by omega⟩ ?_
    refine Fr.ildn (by decide +kernel : zi 38 14 = some (.iload_n 1, 1)) rfl ?_
    refine Fr.iconst (by decide +kernel : zi 38 15 = some (.iconst 0, 1)) (by decide) ?_
    refine Fr.aldn (c := 58) (by decide +kernel : zi 38 16 = some (.aload_n 0, 1)) rfl ⟨by omega, by omega⟩ ?_
    refine Fr.gR (c := 57) (c2 := 2) (ci := 3) (k := 0) 0 (by decide +kernel : zi 38 17 = some (.getfield 30, 3)) (by decide +kernel) (by decide +kernel) (by decide +kernel) (by decide) rfl (fun q => q (57, 0, 2) (by decide +kernel)) ?_
    refine Fr.gR (c := 1) (c2 := 5) (ci := 0) (k := 5) 5 (by decide +kernel : zi 38 20 = some (.getfield 102, 3)) (by decide +kernel) (by decide +kernel) (by decide +kernel) (by decide) rfl (fun q => q (1, 5, 5) (by decide +kernel)) ?_
    refine Fr.ildn (by decide +kernel : zi 38 23 = some (.iload_n 1, 1)) rfl ?_
    obtain ⟨⟨g0, g1⟩, h⟩ := h
    refine Fr.iald (c := 4) (N := 6) (by decide +kernel : zi 38 24 = some (.iaload, 1)) (by decide +kernel) (by decide) g0 g1 ?_
    refine Fr.aldn (c := 58) (by decide +kernel : zi 38 25 = some (.aload_n 0, 1)) rfl ⟨by omega, by omega⟩ ?_
    refine Fr.gR (c := 57) (c2 := 2) (ci := 3) (k := 0) 0 (by decide +kernel : zi 38 26 = some (.getfield 30, 3)) (by decide +kernel) (by decide +kernel) (by decide +kernel) (by decide) rfl (fun q => q (57, 0, 2) (by decide +kernel)) ?_
    refine Fr.gR (c := 1) (c2 := 7) (ci := 0) (k := 7) 7 (by decide +kernel : zi 38 29 = some (.getfield 105, 3)) (by decide +kernel) (by decide +kernel) (by decide +kernel) (by decide) rfl (fun q => q (1, 7, 7) (by decide +kernel)) ?_
    refine Fr.ildn (by decide +kernel : zi 38 32 = some (.iload_n 1, 1)) rfl ?_
    obtain ⟨⟨g0, g1⟩, h⟩ := h
    refine Fr.iald (c := 6) (N := 6) (by decide +kernel : zi 38 33 = some (.iaload, 1)) (by decide +kernel) (by decide) g0 g1 ?_
    refine Fr.ildn (by decide +kernel : zi 38 34 = some (.iload_n 2, 1)) rfl ?_
    refine Fr.aldn (c := 58) (by decide +kernel : zi 38 35 = some (.aload_n 0, 1)) rfl ⟨by omega, by omega⟩ ?_
    refine Fr.gR (c := 57) (c2 := 2) (ci := 3) (k := 0) 0 (by decide +kernel : zi 38 36 = some (.getfield 30, 3)) (by decide +kernel) (by decide +kernel) (by decide +kernel) (by decide) rfl (fun q => q (57, 0, 2) (by decide +kernel)) ?_
    refine Fr.gR (c := 1) (c2 := 6) (ci := 0) (k := 6) 6 (by decide +kernel : zi 38 39 = some (.getfield 108, 3)) (by decide +kernel) (by decide +kernel) (by decide +kernel) (by decide) rfl (fun q => q (1, 6, 6) (by decide +kernel)) ?_
    refine Fr.ildn (by decide +kernel : zi 38 42 = some (.iload_n 1, 1)) rfl ?_
    obtain ⟨⟨g0, g1⟩, h⟩ := h
    refine Fr.iald (c := 5) (N := 6) (by decide +kernel : zi 38 43 = some (.iaload, 1)) (by decide +kernel) (by decide) g0 g1 ?_
    refine Fr.callV (y2 := 39) (na := 7) (as := [rf 58, it v1, it 0, it (s1 4 v1), it (s1 6 v1), it v2, it (s1 5 v1)]) (rest := []) (by decide +kernel : zi 38 44 = some (.invokevirtual 74, 3)) rfl (by decide +kernel) (by decide +kernel) rfl rfl (zok_V rfl (by decide) (by decide +kernel) (by decide +kernel) (zrecv_c (c := 57) (by decide) (by decide +kernel)) rfl (Nat.le_of_ble_eq_true rfl)) h (fun s3 h => ?_)
    refine Fr.iconst (by decide +kernel : zi 38 47 = some (.iconst 0, 1)) (by decide) ?_
    refine Fr.sipush (by decide +kernel : zi 38 48 = some (.sipush 999, 3)) (by decide) ?_
    refine Fr.aldn (c := 58) (by decide +kernel : zi 38 51 = some (.aload_n 0, 1)) rfl ⟨by omega, by omega⟩ ?_
    obtain ⟨tq4, htq4, g0, h⟩ := h
    refine Fr.gR (c := 57) (c2 := (21 + 4 * tq4 + 1)) (ci := 3) (k := 1) 1 (by decide +kernel : zi 38 52 = some (.getfield 34, 3)) (by decide +kernel) (by decide +kernel) (by decide +kernel) (by decide) rfl (fun _ => g0) ?_
    refine Fr.iconst (by decide +kernel : zi 38 55 = some (.iconst 2, 1)) (by decide) ?_
    refine Fr.aldn (c := 58) (by decide +kernel : zi 38 56 = some (.aload_n 0, 1)) rfl ⟨by omega, by omega⟩ ?_
    refine Fr.gR (c := 57) (c2 := 59) (ci := 3) (k := 2) 2 (by decide +kernel : zi 38 57 = some (.getfield 9, 3)) (by decide +kernel) (by decide +kernel) (by decide +kernel) (by decide) rfl (fun q => q (57, 2, 59) (by decide +kernel)) ?_
    refine Fr.callI (y2 := 13) (na := 3) (as := [rf (21 + 4 * tq4 + 1), it 2, rf 59]) (rest := [it 999, it 0]) (by decide +kernel : zi 38 60 = some (.invokevirtual 78, 3)) rfl (by decide +kernel) (by decide +kernel) rfl rfl (zok_V rfl (by decide) (by decide +kernel) (by decide +kernel) (zrecv_c (c := (21 + 4 * tq4)) (by omega) (by rw [(zlaw_sh _ htq4).1]; decide +kernel)) rfl (Nat.le_of_ble_eq_true rfl)) h (fun r6 s5 h => ?_)
    refine Fr.callI (y2 := 231) (na := 2) (as := [it 999, it r6]) (rest := [it 0]) (by decide +kernel : zi 38 63 = some (.invokestatic 91, 3)) rfl (by decide +kernel) (by decide +kernel) rfl rfl (zok_S rfl (by decide) (by decide +kernel) rfl (Nat.le_of_ble_eq_true rfl)) h (fun r8 s7 h => ?_)
    refine Fr.callI (y2 := 230) (na := 2) (as := [it 0, it r8]) (rest := []) (by decide +kernel : zi 38 66 = some (.invokestatic 96, 3)) rfl (by decide +kernel) (by decide +kernel) rfl rfl (zok_S rfl (by decide) (by decide +kernel) rfl (Nat.le_of_ble_eq_true rfl)) h (fun r10 s9 h => ?_)
    exact Fr.retI (by decide +kernel : zi 38 69 = some (.ireturn, 1)) (by decide +kernel) h
  · have h := h.2 g9
    refine Fr.iconst (by decide +kernel : zi 38 11 = some (.iconst 0, 1)) (by decide) ?_
    exact Fr.retI (by decide +kernel : zi 38 12 = some (.ireturn, 1)) (by decide +kernel) h
theorem e38 {xs : Nat → Int} {L : Nat} {d : Nat} {v1 : Int} {v2 : Int} {s : Pl} {Q : Option AV → Pl → Prop} (hd : 1 ≤ d) (k : Fr xs L T0 106 (d - 1) 38 0 [some (rf 58), some (it v1), some (it v2)] [] s Q) : Ev xs L T0 106 d 38 [rf 58, it v1, it v2] s Q := Ev.of (by decide) _ rfl hd k
-- 39 X3_name
theorem f39_0 {xs : Nat → Int} {L : Nat} {d : Nat} {v1 : Int} {v2 : Int} {v3 : Int} {v4 : Int} {v5 : Int} {v6 : Int} {s : Pl} {P : Pl → Prop} (h : (0 ≤ (0 : Int) ∧ (0 : Int) < 6) ∧ (0 ≤ (1 : Int) ∧ (1 : Int) < 6) ∧ (0 ≤ (2 : Int) ∧ (2 : Int) < 6) ∧ (0 ≤ (3 : Int) ∧ (3 : Int) < 6) ∧ (0 ≤ (4 : Int) ∧ (4 : Int) < 6) ∧ (0 ≤ (5 : Int) ∧ (5 : Int) < 6) ∧ P (zup (zup (zup (zup (zup (zup s 58 0 v1) 58 1 v2) 58 2 v3) 58 3 v4) 58 4 v5) 58 5 v6)) : Fr xs L T0 106 d 39 0 [some (rf 58), some (it v1), some (it v2), some (it v3), some (it v4), some (it v5), some (it v6)] [] s (qv P) := by
  refine Fr.aldn (c := 58) (by decide +kernel : zi 39 0 = some (.aload_n 0, 1)) rfl ⟨by omega, by omega⟩ ?_
  refine Fr.gR (c := 57) (c2 := 59) (ci := 3) (k := 2) 2 (by decide +kernel : zi 39 1 = some (.getfield 9, 3)) (by decide +kernel) (by decide +kernel) (by decide +kernel) (by decide) rfl (fun q => q (57, 2, 59) (by decide +kernel)) ?_
  refine Fr.iconst (by decide +kernel : zi 39 4 = some (.iconst 0, 1)) (by decide) ?_
  refine Fr.ildn (by decide +kernel : zi 39 5 = some (.iload_n 1, 1)) rfl ?_
  obtain ⟨⟨g0, g1⟩, h⟩ := h
  refine Fr.iast (c := 58) (N := 6) (by decide +kernel : zi 39 6 = some (.iastore, 1)) (by decide +kernel) (by decide) g0 g1 ?_
  refine Fr.aldn (c := 58) (by decide +kernel : zi 39 7 = some (.aload_n 0, 1)) rfl ⟨by omega, by omega⟩ ?_
  refine Fr.gR (c := 57) (c2 := 59) (ci := 3) (k := 2) 2 (by decide +kernel : zi 39 8 = some (.getfield 9, 3)) (by decide +kernel) (by decide +kernel) (by decide +kernel) (by decide) rfl (fun q => q (57, 2, 59) (by decide +kernel)) ?_
  refine Fr.iconst (by decide +kernel : zi 39 11 = some (.iconst 1, 1)) (by decide) ?_
  refine Fr.ildn (by decide +kernel : zi 39 12 = some (.iload_n 2, 1)) rfl ?_
  obtain ⟨⟨g0, g1⟩, h⟩ := h
  refine Fr.iast (c := 58) (N := 6) (by decide +kernel : zi 39 13 = some (.iastore, 1)) (by decide +kernel) (by decide) g0 g1 ?_
  refine Fr.aldn (c := 58) (by decide +kernel : zi 39 14 = some (.aload_n 0, 1)) rfl ⟨by omega, by omega⟩ ?_
  refine Fr.gR (c := 57) (c2 := 59) (ci := 3) (k := 2) 2 (by decide +kernel : zi 39 15 = some (.getfield 9, 3)) (by decide +kernel) (by decide +kernel) (by decide +kernel) (by decide) rfl (fun q => q (57, 2, 59) (by decide +kernel)) ?_
  refine Fr.iconst (by decide +kernel : zi 39 18 = some (.iconst 2, 1)) (by decide) ?_
  refine Fr.ildn (by decide +kernel : zi 39 19 = some (.iload_n 3, 1)) rfl ?_
  obtain ⟨⟨g0, g1⟩, h⟩ := h
  refine Fr.iast (c := 58) (N := 6) (by decide +kernel : zi 39 20 = some (.iastore, 1)) (by decide +kernel) (by decide) g0 g1 ?_
  refine Fr.aldn (c := 58) (by decide +kernel : zi 39 21 = some (.aload_n 0, 1)) rfl ⟨by omega, by omega⟩ ?_
  refine Fr.gR (c := 57) (c2 := 59) (ci := 3) (k := 2) 2 (by decide +kernel : zi 39 22 = some (.getfield 9, 3)) (by decide +kernel) (by decide +kernel) (by decide +kernel) (by decide) rfl (fun q => q (57, 2, 59) (by decide +kernel)) ?_
  refine Fr.iconst (by decide +kernel : zi 39 25 = some (.iconst 3, 1)) (by decide) ?_
  refine Fr.ild (by decide +kernel : zi 39 26 = some (.iload 4, 2)) rfl ?_
  obtain ⟨⟨g0, g1⟩, h⟩ := h
  refine Fr.iast (c := 58) (N := 6) (by decide +kernel : zi 39 28 = some (.iastore, 1)) (by decide +kernel) (by decide) g0 g1 ?_
  refine Fr.aldn (c := 58) (by decide +kernel : zi 39 29 = some (.aload_n 0, 1)) rfl ⟨by omega, by omega⟩ ?_
  refine Fr.gR (c := 57) (c2 := 59) (ci := 3) (k := 2) 2 (by decide +kernel : zi 39 30 = some (.getfield 9, 3)) (by decide +kernel) (by decide +kernel) (by decide +kernel) (by decide) rfl (fun q => q (57, 2, 59) (by decide +kernel)) ?_
  refine Fr.iconst (by decide +kernel : zi 39 33 = some (.iconst 4, 1)) (by decide) ?_
  refine Fr.ild (by decide +kernel : zi 39 34 = some (.iload 5, 2)) rfl ?_
  obtain ⟨⟨g0, g1⟩, h⟩ := h
  refine Fr.iast (c := 58) (N := 6) (by decide +kernel : zi 39 36 = some (.iastore, 1)) (by decide +kernel) (by decide) g0 g1 ?_
  refine Fr.aldn (c := 58) (by decide +kernel : zi 39 37 = some (.aload_n 0, 1)) rfl ⟨by omega, by omega⟩ ?_
  refine Fr.gR (c := 57) (c2 := 59) (ci := 3) (k := 2) 2 (by decide +kernel : zi 39 38 = some (.getfield 9, 3)) (by decide +kernel) (by decide +kernel) (by decide +kernel) (by decide) rfl (fun q => q (57, 2, 59) (by decide +kernel)) ?_
  refine Fr.iconst (by decide +kernel : zi 39 41 = some (.iconst 5, 1)) (by decide) ?_
  refine Fr.ild (by decide +kernel : zi 39 42 = some (.iload 6, 2)) rfl ?_
  obtain ⟨⟨g0, g1⟩, h⟩ := h
  refine Fr.iast (c := 58) (N := 6) (by decide +kernel : zi 39 44 = some (.iastore, 1)) (by decide +kernel) (by decide) g0 g1 ?_
  exact Fr.retV (by decide +kernel : zi 39 45 = some (.return_, 1)) (by decide +kernel) h
theorem e39 {xs : Nat → Int} {L : Nat} {d : Nat} {v1 : Int} {v2 : Int} {v3 : Int} {v4 : Int} {v5 : Int} {v6 : Int} {s : Pl} {Q : Option AV → Pl → Prop} (hd : 1 ≤ d) (k : Fr xs L T0 106 (d - 1) 39 0 [some (rf 58), some (it v1), some (it v2), some (it v3), some (it v4), some (it v5), some (it v6)] [] s Q) : Ev xs L T0 106 d 39 [rf 58, it v1, it v2, it v3, it v4, it v5, it v6] s Q := Ev.of (by decide) _ rfl hd k
-- 40 X3_mustCome
theorem f40_0 {xs : Nat → Int} {L : Nat} {d : Nat}  {s : Pl} {P : Int → Pl → Prop} (h : P (zand (zw ((zshl 1 (s 1 1)) - 1)) (zxor (s 57 8) (-1))) s) : Fr xs L T0 106 d 40 0 [some (rf 58)] [] s (qi P) := by
  refine Fr.iconst (by decide +kernel : zi 40 0 = some (.iconst 1, 1)) (by decide) ?_
  refine Fr.aldn (c := 58) (by decide +kernel : zi 40 1 = some (.aload_n 0, 1)) rfl ⟨by omega, by omega⟩ ?_
  refine Fr.gR (c := 57) (c2 := 2) (ci := 3) (k := 0) 0 (by decide +kernel : zi 40 2 = some (.getfield 30, 3)) (by decide +kernel) (by decide +kernel) (by decide +kernel) (by decide) rfl (fun q => q (57, 0, 2) (by decide +kernel)) ?_
  refine Fr.gI (c := 1) (ci := 0) (k := 1) (t := 0) 1 (by decide +kernel : zi 40 5 = some (.getfield 64, 3)) (by decide +kernel) (by decide +kernel) (by decide +kernel) (by decide) rfl ?_
  refine Fr.ishl (by decide +kernel : zi 40 8 = some (.ishl, 1)) ?_
  refine Fr.iconst (by decide +kernel : zi 40 9 = some (.iconst 1, 1)) (by decide) ?_
  refine Fr.isub (by decide +kernel : zi 40 10 = some (.isub, 1)) ?_
  refine Fr.aldn (c := 58) (by decide +kernel : zi 40 11 = some (.aload_n 0, 1)) rfl ⟨by omega, by omega⟩ ?_
  refine Fr.gI (c := 57) (ci := 3) (k := 8) (t := 0) 8 (by decide +kernel : zi 40 12 = some (.getfield 51, 3)) (by decide +kernel) (by decide +kernel) (by decide +kernel) (by decide) rfl ?_
  refine Fr.iconst (by decide +kernel : zi 40 15 = some (.iconst (-1), 1)) (by decide) ?_
  refine Fr.ixor (by decide +kernel : zi 40 16 = some (.ixor, 1)) ?_
  refine Fr.iand (by decide +kernel : zi 40 17 = some (.iand, 1)) ?_
  exact Fr.retI (by decide +kernel : zi 40 18 = some (.ireturn, 1)) (by decide +kernel) h
theorem e40 {xs : Nat → Int} {L : Nat} {d : Nat}  {s : Pl} {Q : Option AV → Pl → Prop} (hd : 1 ≤ d) (k : Fr xs L T0 106 (d - 1) 40 0 [some (rf 58)] [] s Q) : Ev xs L T0 106 d 40 [rf 58] s Q := Ev.of (by decide) _ rfl hd k
-- 41 X3_there
theorem f41_0 {xs : Nat → Int} {L : Nat} {d : Nat}  {s : Pl} {P : Int → Pl → Prop} (h : P (zor (s 57 14) (s 57 8)) s) : Fr xs L T0 106 d 41 0 [some (rf 58)] [] s (qi P) := by
  refine Fr.aldn (c := 58) (by decide +kernel : zi 41 0 = some (.aload_n 0, 1)) rfl ⟨by omega, by omega⟩ ?_
  refine Fr.gI (c := 57) (ci := 3) (k := 14) (t := 0) 14 (by decide +kernel : zi 41 1 = some (.getfield 111, 3)) (by decide +kernel) (by decide +kernel) (by decide +kernel) (by decide) rfl ?_
  refine Fr.aldn (c := 58) (by decide +kernel : zi 41 4 = some (.aload_n 0, 1)) rfl ⟨by omega, by omega⟩ ?_
  refine Fr.gI (c := 57) (ci := 3) (k := 8) (t := 0) 8 (by decide +kernel : zi 41 5 = some (.getfield 51, 3)) (by decide +kernel) (by decide +kernel) (by decide +kernel) (by decide) rfl ?_
  refine Fr.ior (by decide +kernel : zi 41 8 = some (.ior, 1)) ?_
  exact Fr.retI (by decide +kernel : zi 41 9 = some (.ireturn, 1)) (by decide +kernel) h
theorem e41 {xs : Nat → Int} {L : Nat} {d : Nat}  {s : Pl} {Q : Option AV → Pl → Prop} (hd : 1 ≤ d) (k : Fr xs L T0 106 (d - 1) 41 0 [some (rf 58)] [] s Q) : Ev xs L T0 106 d 41 [rf 58] s Q := Ev.of (by decide) _ rfl hd k
-- 42 X3_look
theorem f42_0 {xs : Nat → Int} {L : Nat} {d : Nat} {v1 : Int} {s : Pl} {P : Pl → Prop} (h : Fr xs L T0 106 d 42 28 [some (rf 58), some (it v1), some (it (zshr v1 2)), some (it 0), none] [] (zup (zup (zup (zup s 57 11 (zand v1 3)) 57 12 0) 57 13 0) 57 14 0) (qv P)) : Fr xs L T0 106 d 42 0 [some (rf 58), some (it v1), none, none, none] [] s (qv P) := by
  refine Fr.aldn (c := 58) (by decide +kernel : zi 42 0 = some (.aload_n 0, 1)) rfl ⟨by omega, by omega⟩ ?_
  refine Fr.ildn (by decide +kernel : zi 42 1 = some (.iload_n 1, 1)) rfl ?_
  refine Fr.iconst (by decide +kernel : zi 42 2 = some (.iconst 3, 1)) (by decide) ?_
  refine Fr.iand (by decide +kernel : zi 42 3 = some (.iand, 1)) ?_
  refine Fr.pI (c := 57) (ci := 3) (k := 11) 11 (by decide +kernel : zi 42 4 = some (.putfield 114, 3)) (by decide +kernel) (by decide +kernel) (by decide +kernel) (by decide) rfl ?_
  refine Fr.aldn (c := 58) (by decide +kernel : zi 42 7 = some (.aload_n 0, 1)) rfl ⟨by omega, by omega⟩ ?_
  refine Fr.iconst (by decide +kernel : zi 42 8 = some (.iconst 0, 1)) (by decide) ?_
  refine Fr.pI (c := 57) (ci := 3) (k := 12) 12 (by decide +kernel : zi 42 9 = some (.putfield 117, 3)) (by decide +kernel) (by decide +kernel) (by decide +kernel) (by decide) rfl ?_
  refine Fr.aldn (c := 58) (by decide +kernel : zi 42 12 = some (.aload_n 0, 1)) rfl ⟨by omega, by omega⟩ ?_
  refine Fr.iconst (by decide +kernel : zi 42 13 = some (.iconst 0, 1)) (by decide) ?_
  refine Fr.pI (c := 57) (ci := 3) (k := 13) 13 (by decide +kernel : zi 42 14 = some (.putfield 120, 3)) (by decide +kernel) (by decide +kernel) (by decide +kernel) (by decide) rfl ?_
  refine Fr.aldn (c := 58) (by decide +kernel : zi 42 17 = some (.aload_n 0, 1)) rfl ⟨by omega, by omega⟩ ?_
  refine Fr.iconst (by decide +kernel : zi 42 18 = some (.iconst 0, 1)) (by decide) ?_
  refine Fr.pI (c := 57) (ci := 3) (k := 14) 14 (by decide +kernel : zi 42 19 = some (.putfield 111, 3)) (by decide +kernel) (by decide +kernel) (by decide +kernel) (by decide) rfl ?_
  refine Fr.ildn (by decide +kernel : zi 42 22 = some (.iload_n 1, 1)) rfl ?_
  refine Fr.iconst (by decide +kernel : zi 42 23 = some (.iconst 2, 1)) (by decide) ?_
  refine Fr.ishr (by decide +kernel : zi 42 24 = some (.ishr, 1)) ?_
  refine Fr.istn (lv2 := [some (rf 58), some (it v1), some (it (zshr v1 2)), none, none]) (by decide +kernel : zi 42 25 = some (.istore_n 2, 1)) (Nat.le_of_ble_eq_true rfl) rfl ?_
  refine Fr.iconst (by decide +kernel : zi 42 26 = some (.iconst 0, 1)) (by decide) ?_
  refine Fr.istn (lv2 := [some (rf 58), some (it v1), some (it (zshr v1 2)), some (it 0), none]) (by decide +kernel : zi 42 27 = some (.istore_n 3, 1)) (Nat.le_of_ble_eq_true rfl) rfl ?_
  exact h
theorem e42 {xs : Nat → Int} {L : Nat} {d : Nat} {v1 : Int} {s : Pl} {Q : Option AV → Pl → Prop} (hd : 1 ≤ d) (k : Fr xs L T0 106 (d - 1) 42 0 [some (rf 58), some (it v1), none, none, none] [] s Q) : Ev xs L T0 106 d 42 [rf 58, it v1] s Q := Ev.of (by decide) _ rfl hd k
theorem f42_28 {xs : Nat → Int} {L : Nat} {d : Nat} {v1 : Int} {v2 : Int} {v3 : Int} {w4 : Option AV} {s : Pl} {P : Pl → Prop} (h : ((s 1 1 ≤ v3 → P s) ∧ (¬ (s 1 1 ≤ v3) → ((6 ≤ v3 → P s) ∧ (¬ (6 ≤ v3) → ((¬ zrem v2 5 = 4 → ((¬ zrem v2 5 = s 57 11 → Fr xs L T0 106 d 42 96 [some (rf 58), some (it v1), some (it (zdiv v2 5)), some (it v3), some (it (zrem v2 5))] [] s (qv P)) ∧ (¬ (¬ zrem v2 5 = s 57 11) → Fr xs L T0 106 d 42 96 [some (rf 58), some (it v1), some (it (zdiv v2 5)), some (it v3), some (it (zrem v2 5))] [] (zup s 57 13 (zor (s 57 13) (zshl 1 v3))) (qv P)))) ∧ (¬ (¬ zrem v2 5 = 4) → Fr xs L T0 106 d 42 96 [some (rf 58), some (it v1), some (it (zdiv v2 5)), some (it v3), some (it (zrem v2 5))] [] (zup s 57 12 (zor (s 57 12) (zshl 1 v3))) (qv P)))))))) : Fr xs L T0 106 d 42 28 [some (rf 58), some (it v1), some (it v2), some (it v3), w4] [] s (qv P) := by
  refine Fr.ildn (by decide +kernel : zi 42 28 = some (.iload_n 3, 1)) rfl ?_
  refine Fr.aldn (c := 58) (by decide +kernel : zi 42 29 = some (.aload_n 0, 1)) rfl ⟨by omega, by omega⟩ ?_
  refine Fr.gR (c := 57) (c2 := 2) (ci := 3) (k := 0) 0 (by decide +kernel : zi 42 30 = some (.getfield 30, 3)) (by decide +kernel) (by decide +kernel) (by decide +kernel) (by decide) rfl (fun q => q (57, 0, 2) (by decide +kernel)) ?_
  refine Fr.gI (c := 1) (ci := 0) (k := 1) (t := 0) 1 (by decide +kernel : zi 42 33 = some (.getfield 64, 3)) (by decide +kernel) (by decide +kernel) (by decide +kernel) (by decide) rfl ?_
  refine Fr.if2 (q := 128) (by decide +kernel : zi 42 36 = some (.if_icmp .ge 92, 3)) (by decide +kernel) (fun g9 => ?_) (fun g9 => ?_)
  · have h := h.1 g9
    exact Fr.retV (by decide +kernel : zi 42 128 = some (.return_, 1)) (by decide +kernel) h
  · have h := h.2 g9
    refine Fr.ildn (by decide +kernel : zi 42 39 = some (.iload_n 3, 1)) rfl ?_
    refine Fr.bipush (by decide +kernel : zi 42 40 = some (.bipush 6, 2)) (by decide) ?_
    refine Fr.if2 (q := 128) (by decide +kernel : zi 42 42 = some (.if_icmp .ge 86, 3)) (by decide +kernel) (fun g9 => ?_) (fun g9 => ?_)
    · have h := h.1 g9
      exact Fr.retV (by decide +kernel : zi 42 128 = some (.return_, 1)) (by decide +kernel) h
    · have h := h.2 g9
      refine Fr.ildn (by decide +kernel : zi 42 45 = some (.iload_n 2, 1)) rfl ?_
      refine Fr.iconst (by decide +kernel : zi 42 46 = some (.iconst 5, 1)) (by decide) ?_
      refine Fr.irem (by decide +kernel : zi 42 47 = some (.irem, 1)) (by decide) ?_
      refine Fr.ist (lv2 := [some (rf 58), some (it v1), some (it v2), some (it v3), some (it (zrem v2 5))]) (by decide +kernel : zi 42 48 = some (.istore 4, 2)) (Nat.le_of_ble_eq_true rfl) rfl ?_
      refine Fr.ildn (by decide +kernel : zi 42 50 = some (.iload_n 2, 1)) rfl ?_
      refine Fr.iconst (by decide +kernel : zi 42 51 = some (.iconst 5, 1)) (by decide) ?_
      refine Fr.idiv (by decide +kernel : zi 42 52 = some (.idiv, 1)) (by decide) ?_
      refine Fr.istn (lv2 := [some (rf 58), some (it v1), some (it (zdiv v2 5)), some (it v3), some (it (zrem v2 5))]) (by decide +kernel : zi 42 53 = some (.istore_n 2, 1)) (Nat.le_of_ble_eq_true rfl) rfl ?_
      refine Fr.ild (by decide +kernel : zi 42 54 = some (.iload 4, 2)) rfl ?_
      refine Fr.iconst (by decide +kernel : zi 42 56 = some (.iconst 4, 1)) (by decide) ?_
      refine Fr.if2 (q := 75) (by decide +kernel : zi 42 57 = some (.if_icmp .ne 18, 3)) (by decide +kernel) (fun g9 => ?_) (fun g9 => ?_)
      · have h := h.1 g9
        refine Fr.ild (by decide +kernel : zi 42 75 = some (.iload 4, 2)) rfl ?_
        refine Fr.aldn (c := 58) (by decide +kernel : zi 42 77 = some (.aload_n 0, 1)) rfl ⟨by omega, by omega⟩ ?_
        refine Fr.gI (c := 57) (ci := 3) (k := 11) (t := 0) 11 (by decide +kernel : zi 42 78 = some (.getfield 114, 3)) (by decide +kernel) (by decide +kernel) (by decide +kernel) (by decide) rfl ?_
        refine Fr.if2 (q := 96) (by decide +kernel : zi 42 81 = some (.if_icmp .ne 15, 3)) (by decide +kernel) (fun g9 => ?_) (fun g9 => ?_)
        · have h := h.1 g9
          exact h
        · have h := h.2 g9
          refine Fr.aldn (c := 58) (by decide +kernel : zi 42 84 = some (.aload_n 0, 1)) rfl ⟨by omega, by omega⟩ ?_
          refine Fr.dup (by decide +kernel : zi 42 85 = some (.dup, 1)) rfl ?_
          refine Fr.gI (c := 57) (ci := 3) (k := 13) (t := 0) 13 (by decide +kernel : zi 42 86 = some (.getfield 120, 3)) (by decide +kernel) (by decide +kernel) (by decide +kernel) (by decide) rfl ?_
          refine Fr.iconst (by decide +kernel : zi 42 89 = some (.iconst 1, 1)) (by decide) ?_
          refine Fr.ildn (by decide +kernel : zi 42 90 = some (.iload_n 3, 1)) rfl ?_
          refine Fr.ishl (by decide +kernel : zi 42 91 = some (.ishl, 1)) ?_
          refine Fr.ior (by decide +kernel : zi 42 92 = some (.ior, 1)) ?_
          refine Fr.pI (c := 57) (ci := 3) (k := 13) 13 (by decide +kernel : zi 42 93 = some (.putfield 120, 3)) (by decide +kernel) (by decide +kernel) (by decide +kernel) (by decide) rfl ?_
          exact h
      · have h := h.2 g9
        refine Fr.aldn (c := 58) (by decide +kernel : zi 42 60 = some (.aload_n 0, 1)) rfl ⟨by omega, by omega⟩ ?_
        refine Fr.dup (by decide +kernel : zi 42 61 = some (.dup, 1)) rfl ?_
        refine Fr.gI (c := 57) (ci := 3) (k := 12) (t := 0) 12 (by decide +kernel : zi 42 62 = some (.getfield 117, 3)) (by decide +kernel) (by decide +kernel) (by decide +kernel) (by decide) rfl ?_
        refine Fr.iconst (by decide +kernel : zi 42 65 = some (.iconst 1, 1)) (by decide) ?_
        refine Fr.ildn (by decide +kernel : zi 42 66 = some (.iload_n 3, 1)) rfl ?_
        refine Fr.ishl (by decide +kernel : zi 42 67 = some (.ishl, 1)) ?_
        refine Fr.ior (by decide +kernel : zi 42 68 = some (.ior, 1)) ?_
        refine Fr.pI (c := 57) (ci := 3) (k := 12) 12 (by decide +kernel : zi 42 69 = some (.putfield 117, 3)) (by decide +kernel) (by decide +kernel) (by decide +kernel) (by decide) rfl ?_
        refine Fr.goto (q := 96) (by decide +kernel : zi 42 72 = some (.goto 24, 3)) (by decide +kernel) ?_
        exact h
theorem f42_96 {xs : Nat → Int} {L : Nat} {d : Nat} {v1 : Int} {v2 : Int} {v3 : Int} {v4 : Int} {s : Pl} {P : Pl → Prop} (h : (0 ≤ v3 ∧ v3 < 6) ∧ ((¬ v4 = s 4 v3 → Fr xs L T0 106 d 42 122 [some (rf 58), some (it v1), some (it v2), some (it v3), some (it v4)] [] s (qv P)) ∧ (¬ (¬ v4 = s 4 v3) → Fr xs L T0 106 d 42 122 [some (rf 58), some (it v1), some (it v2), some (it v3), some (it v4)] [] (zup s 57 14 (zor (s 57 14) (zshl 1 v3))) (qv P)))) : Fr xs L T0 106 d 42 96 [some (rf 58), some (it v1), some (it v2), some (it v3), some (it v4)] [] s (qv P) := by
  refine Fr.ild (by decide +kernel : zi 42 96 = some (.iload 4, 2)) rfl ?_
  refine Fr.aldn (c := 58) (by decide +kernel : zi 42 98 = some (.aload_n 0, 1)) rfl ⟨by omega, by omega⟩ ?_
  refine Fr.gR (c := 57) (c2 := 2) (ci := 3) (k := 0) 0 (by decide +kernel : zi 42 99 = some (.getfield 30, 3)) (by decide +kernel) (by decide +kernel) (by decide +kernel) (by decide) rfl (fun q => q (57, 0, 2) (by decide +kernel)) ?_
  refine Fr.gR (c := 1) (c2 := 5) (ci := 0) (k := 5) 5 (by decide +kernel : zi 42 102 = some (.getfield 102, 3)) (by decide +kernel) (by decide +kernel) (by decide +kernel) (by decide) rfl (fun q => q (1, 5, 5) (by decide +kernel)) ?_
  refine Fr.ildn (by decide +kernel : zi 42 105 = some (.iload_n 3, 1)) rfl ?_
  obtain ⟨⟨g0, g1⟩, h⟩ := h
  refine Fr.iald (c := 4) (N := 6) (by decide +kernel : zi 42 106 = some (.iaload, 1)) (by decide +kernel) (by decide) g0 g1 ?_
  refine Fr.if2 (q := 122) (by decide +kernel : zi 42 107 = some (.if_icmp .ne 15, 3)) (by decide +kernel) (fun g9 => ?_) (fun g9 => ?_)
  · have h := h.1 g9
    exact h
  · have h := h.2 g9
    refine Fr.aldn (c := 58) (by decide +kernel : zi 42 110 = some (.aload_n 0, 1)) rfl ⟨by omega, by omega⟩ ?_
    refine Fr.dup (by decide +kernel : zi 42 111 = some (.dup, 1)) rfl ?_
    refine Fr.gI (c := 57) (ci := 3) (k := 14) (t := 0) 14 (by decide +kernel : zi 42 112 = some (.getfield 111, 3)) (by decide +kernel) (by decide +kernel) (by decide +kernel) (by decide) rfl ?_
    refine Fr.iconst (by decide +kernel : zi 42 115 = some (.iconst 1, 1)) (by decide) ?_
    refine Fr.ildn (by decide +kernel : zi 42 116 = some (.iload_n 3, 1)) rfl ?_
    refine Fr.ishl (by decide +kernel : zi 42 117 = some (.ishl, 1)) ?_
    refine Fr.ior (by decide +kernel : zi 42 118 = some (.ior, 1)) ?_
    refine Fr.pI (c := 57) (ci := 3) (k := 14) 14 (by decide +kernel : zi 42 119 = some (.putfield 111, 3)) (by decide +kernel) (by decide +kernel) (by decide +kernel) (by decide) rfl ?_
    exact h
theorem f42_122 {xs : Nat → Int} {L : Nat} {d : Nat} {v1 : Int} {v2 : Int} {v3 : Int} {v4 : Int} {s : Pl} {P : Pl → Prop} (h : Fr xs L T0 106 d 42 28 [some (rf 58), some (it v1), some (it v2), some (it (zw (v3 + 1))), some (it v4)] [] s (qv P)) : Fr xs L T0 106 d 42 122 [some (rf 58), some (it v1), some (it v2), some (it v3), some (it v4)] [] s (qv P) := by
  refine Fr.iinc (lv2 := [some (rf 58), some (it v1), some (it v2), some (it (zw (v3 + 1))), some (it v4)]) (by decide +kernel : zi 42 122 = some (.iinc 3 1, 3)) (Nat.le_of_ble_eq_true rfl) rfl rfl ?_
  refine Fr.goto (q := 28) (by decide +kernel : zi 42 125 = some (.goto (-97), 3)) (by decide +kernel) ?_
  exact h
-- 43 X3_isAboard
theorem f43_0 {xs : Nat → Int} {L : Nat} {d : Nat} {v1 : Int} {s : Pl} {P : Int → Pl → Prop} (h : ((zand (zshr (s 57 12) v1) 1 = 0 → P 0 s) ∧ (¬ (zand (zshr (s 57 12) v1) 1 = 0) → P 1 s))) : Fr xs L T0 106 d 43 0 [some (rf 58), some (it v1)] [] s (qi P) := by
  refine Fr.aldn (c := 58) (by decide +kernel : zi 43 0 = some (.aload_n 0, 1)) rfl ⟨by omega, by omega⟩ ?_
  refine Fr.gI (c := 57) (ci := 3) (k := 12) (t := 0) 12 (by decide +kernel : zi 43 1 = some (.getfield 117, 3)) (by decide +kernel) (by decide +kernel) (by decide +kernel) (by decide) rfl ?_
  refine Fr.ildn (by decide +kernel : zi 43 4 = some (.iload_n 1, 1)) rfl ?_
  refine Fr.ishr (by decide +kernel : zi 43 5 = some (.ishr, 1)) ?_
  refine Fr.iconst (by decide +kernel : zi 43 6 = some (.iconst 1, 1)) (by decide) ?_
  refine Fr.iand (by decide +kernel : zi 43 7 = some (.iand, 1)) ?_
  refine Fr.if0 (q := 15) (by decide +kernel : zi 43 8 = some (.ifCond .eq 7, 3)) (by decide +kernel) (fun g9 => ?_) (fun g9 => ?_)
  · have h := h.1 g9
    refine Fr.iconst (by decide +kernel : zi 43 15 = some (.iconst 0, 1)) (by decide) ?_
    exact Fr.retZ (by decide +kernel : zi 43 16 = some (.ireturn, 1)) (by decide +kernel) (by decide) h
  · have h := h.2 g9
    refine Fr.iconst (by decide +kernel : zi 43 11 = some (.iconst 1, 1)) (by decide) ?_
    refine Fr.goto (q := 16) (by decide +kernel : zi 43 12 = some (.goto 4, 3)) (by decide +kernel) ?_
    exact Fr.retZ (by decide +kernel : zi 43 16 = some (.ireturn, 1)) (by decide +kernel) (by decide) h
theorem e43 {xs : Nat → Int} {L : Nat} {d : Nat} {v1 : Int} {s : Pl} {Q : Option AV → Pl → Prop} (hd : 1 ≤ d) (k : Fr xs L T0 106 (d - 1) 43 0 [some (rf 58), some (it v1)] [] s Q) : Ev xs L T0 106 d 43 [rf 58, it v1] s Q := Ev.of (by decide) _ rfl hd k
-- 44 X3_placeIn
theorem f44_0 {xs : Nat → Int} {L : Nat} {d : Nat} {v1 : Int} {v2 : Int} {s : Pl} {P : Int → Pl → Prop} (h : Ev xs L T0 106 d 2 [rf 2, it v2] s (qi fun r2 s1 => ((¬ r2 = 0 → (0 ≤ v2 ∧ v2 < 6) ∧ (¬ (zgiv xs L 1).2 v2 = 0) ∧ P (zrem (zdiv v1 ((zgiv xs L 1).2 v2)) 5) s1) ∧ (¬ (¬ r2 = 0) → P 0 s1)))) : Fr xs L T0 106 d 44 0 [some (rf 58), some (it v1), some (it v2)] [] s (qi P) := by
  refine Fr.aldn (c := 58) (by decide +kernel : zi 44 0 = some (.aload_n 0, 1)) rfl ⟨by omega, by omega⟩ ?_
  refine Fr.gR (c := 57) (c2 := 2) (ci := 3) (k := 0) 0 (by decide +kernel : zi 44 1 = some (.getfield 30, 3)) (by decide +kernel) (by decide +kernel) (by decide +kernel) (by decide) rfl (fun q => q (57, 0, 2) (by decide +kernel)) ?_
  refine Fr.ildn (by decide +kernel : zi 44 4 = some (.iload_n 2, 1)) rfl ?_
  refine Fr.callI (y2 := 2) (na := 2) (as := [rf 2, it v2]) (rest := []) (by decide +kernel : zi 44 5 = some (.invokevirtual 99, 3)) rfl (by decide +kernel) (by decide +kernel) rfl rfl (zok_V rfl (by decide) (by decide +kernel) (by decide +kernel) (zrecv_c (c := 1) (by decide) (by decide +kernel)) rfl (Nat.le_of_ble_eq_true rfl)) h (fun r2 s1 h => ?_)
  refine Fr.if0 (q := 13) (by decide +kernel : zi 44 8 = some (.ifCond .ne 5, 3)) (by decide +kernel) (fun g9 => ?_) (fun g9 => ?_)
  · have h := h.1 g9
    refine Fr.ildn (by decide +kernel : zi 44 13 = some (.iload_n 1, 1)) rfl ?_
    refine Fr.gets (v := rf 100001) (by decide +kernel : zi 44 14 = some (.getstatic 123, 3)) (by decide +kernel) ?_
    refine Fr.ildn (by decide +kernel : zi 44 17 = some (.iload_n 2, 1)) rfl ?_
    obtain ⟨⟨g0, g1⟩, h⟩ := h
    refine Fr.giv (j := 1) (by decide +kernel : zi 44 18 = some (.iaload, 1)) (by decide) g0 (show _ < ((zgiv xs L 1).1 : Int) from g1) ?_
    obtain ⟨g0, h⟩ := h
    refine Fr.idiv (by decide +kernel : zi 44 19 = some (.idiv, 1)) g0 ?_
    refine Fr.iconst (by decide +kernel : zi 44 20 = some (.iconst 5, 1)) (by decide) ?_
    refine Fr.irem (by decide +kernel : zi 44 21 = some (.irem, 1)) (by decide) ?_
    exact Fr.retI (by decide +kernel : zi 44 22 = some (.ireturn, 1)) (by decide +kernel) h
  · have h := h.2 g9
    refine Fr.iconst (by decide +kernel : zi 44 11 = some (.iconst 0, 1)) (by decide) ?_
    exact Fr.retI (by decide +kernel : zi 44 12 = some (.ireturn, 1)) (by decide +kernel) h
theorem e44 {xs : Nat → Int} {L : Nat} {d : Nat} {v1 : Int} {v2 : Int} {s : Pl} {Q : Option AV → Pl → Prop} (hd : 1 ≤ d) (k : Fr xs L T0 106 (d - 1) 44 0 [some (rf 58), some (it v1), some (it v2)] [] s Q) : Ev xs L T0 106 d 44 [rf 58, it v1, it v2] s Q := Ev.of (by decide) _ rfl hd k
-- 45 X3_swapped
theorem f45_0 {xs : Nat → Int} {L : Nat} {d : Nat} {v1 : Int} {v2 : Int} {v3 : Int} {s : Pl} {P : Int → Pl → Prop} (h : Ev xs L T0 106 d 2 [rf 2, it v2] s (qi fun r2 s1 => ((r2 = 0 → P v1 s1) ∧ (¬ (r2 = 0) → Ev xs L T0 106 d 2 [rf 2, it v3] s1 (qi fun r4 s3 => ((¬ r4 = 0 → (0 ≤ v3 ∧ v3 < 6) ∧ (0 ≤ v2 ∧ v2 < 6) ∧ P (zw (v1 + (zw ((zw (4 - (s3 57 11))) * (zw (((zgiv xs L 1).2 v3) - ((zgiv xs L 1).2 v2))))))) s3) ∧ (¬ (¬ r4 = 0) → P v1 s3))))))) : Fr xs L T0 106 d 45 0 [some (rf 58), some (it v1), some (it v2), some (it v3)] [] s (qi P) := by
  refine Fr.aldn (c := 58) (by decide +kernel : zi 45 0 = some (.aload_n 0, 1)) rfl ⟨by omega, by omega⟩ ?_
  refine Fr.gR (c := 57) (c2 := 2) (ci := 3) (k := 0) 0 (by decide +kernel : zi 45 1 = some (.getfield 30, 3)) (by decide +kernel) (by decide +kernel) (by decide +kernel) (by decide) rfl (fun q => q (57, 0, 2) (by decide +kernel)) ?_
  refine Fr.ildn (by decide +kernel : zi 45 4 = some (.iload_n 2, 1)) rfl ?_
  refine Fr.callI (y2 := 2) (na := 2) (as := [rf 2, it v2]) (rest := []) (by decide +kernel : zi 45 5 = some (.invokevirtual 99, 3)) rfl (by decide +kernel) (by decide +kernel) rfl rfl (zok_V rfl (by decide) (by decide +kernel) (by decide +kernel) (zrecv_c (c := 1) (by decide) (by decide +kernel)) rfl (Nat.le_of_ble_eq_true rfl)) h (fun r2 s1 h => ?_)
  refine Fr.if0 (q := 22) (by decide +kernel : zi 45 8 = some (.ifCond .eq 14, 3)) (by decide +kernel) (fun g9 => ?_) (fun g9 => ?_)
  · have h := h.1 g9
    refine Fr.ildn (by decide +kernel : zi 45 22 = some (.iload_n 1, 1)) rfl ?_
    exact Fr.retI (by decide +kernel : zi 45 23 = some (.ireturn, 1)) (by decide +kernel) h
  · have h := h.2 g9
    refine Fr.aldn (c := 58) (by decide +kernel : zi 45 11 = some (.aload_n 0, 1)) rfl ⟨by omega, by omega⟩ ?_
    refine Fr.gR (c := 57) (c2 := 2) (ci := 3) (k := 0) 0 (by decide +kernel : zi 45 12 = some (.getfield 30, 3)) (by decide +kernel) (by decide +kernel) (by decide +kernel) (by decide) rfl (fun q => q (57, 0, 2) (by decide +kernel)) ?_
    refine Fr.ildn (by decide +kernel : zi 45 15 = some (.iload_n 3, 1)) rfl ?_
    refine Fr.callI (y2 := 2) (na := 2) (as := [rf 2, it v3]) (rest := []) (by decide +kernel : zi 45 16 = some (.invokevirtual 99, 3)) rfl (by decide +kernel) (by decide +kernel) rfl rfl (zok_V rfl (by decide) (by decide +kernel) (by decide +kernel) (zrecv_c (c := 1) (by decide) (by decide +kernel)) rfl (Nat.le_of_ble_eq_true rfl)) h (fun r4 s3 h => ?_)
    refine Fr.if0 (q := 24) (by decide +kernel : zi 45 19 = some (.ifCond .ne 5, 3)) (by decide +kernel) (fun g9 => ?_) (fun g9 => ?_)
    · have h := h.1 g9
      refine Fr.ildn (by decide +kernel : zi 45 24 = some (.iload_n 1, 1)) rfl ?_
      refine Fr.iconst (by decide +kernel : zi 45 25 = some (.iconst 4, 1)) (by decide) ?_
      refine Fr.aldn (c := 58) (by decide +kernel : zi 45 26 = some (.aload_n 0, 1)) rfl ⟨by omega, by omega⟩ ?_
      refine Fr.gI (c := 57) (ci := 3) (k := 11) (t := 0) 11 (by decide +kernel : zi 45 27 = some (.getfield 114, 3)) (by decide +kernel) (by decide +kernel) (by decide +kernel) (by decide) rfl ?_
      refine Fr.isub (by decide +kernel : zi 45 30 = some (.isub, 1)) ?_
      refine Fr.gets (v := rf 100001) (by decide +kernel : zi 45 31 = some (.getstatic 123, 3)) (by decide +kernel) ?_
      refine Fr.ildn (by decide +kernel : zi 45 34 = some (.iload_n 3, 1)) rfl ?_
      obtain ⟨⟨g0, g1⟩, h⟩ := h
      refine Fr.giv (j := 1) (by decide +kernel : zi 45 35 = some (.iaload, 1)) (by decide) g0 (show _ < ((zgiv xs L 1).1 : Int) from g1) ?_
      refine Fr.gets (v := rf 100001) (by decide +kernel : zi 45 36 = some (.getstatic 123, 3)) (by decide +kernel) ?_
      refine Fr.ildn (by decide +kernel : zi 45 39 = some (.iload_n 2, 1)) rfl ?_
      obtain ⟨⟨g0, g1⟩, h⟩ := h
      refine Fr.giv (j := 1) (by decide +kernel : zi 45 40 = some (.iaload, 1)) (by decide) g0 (show _ < ((zgiv xs L 1).1 : Int) from g1) ?_
      refine Fr.isub (by decide +kernel : zi 45 41 = some (.isub, 1)) ?_
      refine Fr.imul (by decide +kernel : zi 45 42 = some (.imul, 1)) ?_
      refine Fr.iadd (by decide +kernel : zi 45 43 = some (.iadd, 1)) ?_
      exact Fr.retI (by decide +kernel : zi 45 44 = some (.ireturn, 1)) (by decide +kernel) h
    · have h := h.2 g9
      refine Fr.ildn (by decide +kernel : zi 45 22 = some (.iload_n 1, 1)) rfl ?_
      exact Fr.retI (by decide +kernel : zi 45 23 = some (.ireturn, 1)) (by decide +kernel) h
theorem e45 {xs : Nat → Int} {L : Nat} {d : Nat} {v1 : Int} {v2 : Int} {v3 : Int} {s : Pl} {Q : Option AV → Pl → Prop} (hd : 1 ≤ d) (k : Fr xs L T0 106 (d - 1) 45 0 [some (rf 58), some (it v1), some (it v2), some (it v3)] [] s Q) : Ev xs L T0 106 d 45 [rf 58, it v1, it v2, it v3] s Q := Ev.of (by decide) _ rfl hd k
-- 46 X3_rowed
theorem f46_0 {xs : Nat → Int} {L : Nat} {d : Nat} {v1 : Int} {v2 : Int} {s : Pl} {P : Int → Pl → Prop} (h : P (zw ((zw (v1 - (s 57 11))) + v2)) s) : Fr xs L T0 106 d 46 0 [some (rf 58), some (it v1), some (it v2)] [] s (qi P) := by
  refine Fr.ildn (by decide +kernel : zi 46 0 = some (.iload_n 1, 1)) rfl ?_
  refine Fr.aldn (c := 58) (by decide +kernel : zi 46 1 = some (.aload_n 0, 1)) rfl ⟨by omega, by omega⟩ ?_
  refine Fr.gI (c := 57) (ci := 3) (k := 11) (t := 0) 11 (by decide +kernel : zi 46 2 = some (.getfield 114, 3)) (by decide +kernel) (by decide +kernel) (by decide +kernel) (by decide) rfl ?_
  refine Fr.isub (by decide +kernel : zi 46 5 = some (.isub, 1)) ?_
  refine Fr.ildn (by decide +kernel : zi 46 6 = some (.iload_n 2, 1)) rfl ?_
  refine Fr.iadd (by decide +kernel : zi 46 7 = some (.iadd, 1)) ?_
  exact Fr.retI (by decide +kernel : zi 46 8 = some (.ireturn, 1)) (by decide +kernel) h
theorem e46 {xs : Nat → Int} {L : Nat} {d : Nat} {v1 : Int} {v2 : Int} {s : Pl} {Q : Option AV → Pl → Prop} (hd : 1 ≤ d) (k : Fr xs L T0 106 (d - 1) 46 0 [some (rf 58), some (it v1), some (it v2)] [] s Q) : Ev xs L T0 106 d 46 [rf 58, it v1, it v2] s Q := Ev.of (by decide) _ rfl hd k
-- 47 X3_mayBe
theorem f47_0 {xs : Nat → Int} {L : Nat} {d : Nat} {v1 : Int} {v2 : Int} {s : Pl} {P : Int → Pl → Prop} (h : Ev xs L T0 106 d 2 [rf 2, it v1] s (qi fun r2 s1 => ((r2 = 0 → P 0 s1) ∧ (¬ (r2 = 0) → Ev xs L T0 106 d 2 [rf 2, it v2] s1 (qi fun r4 s3 => ((r4 = 0 → P 0 s3) ∧ (¬ (r4 = 0) → ((zand (zshr (s3 57 12) v1) 1 = 0 → P 0 s3) ∧ (¬ (zand (zshr (s3 57 12) v1) 1 = 0) → ((¬ zand (zshr (s3 57 13) v2) 1 = 0 → (0 ≤ zw ((zw (6 * v1)) + v2) ∧ zw ((zw (6 * v1)) + v2) < 36) ∧ ((zand (zshr (s3 61 (zw ((zw (6 * v1)) + v2))) (s3 57 11)) 1 = 0 → Fr xs L T0 106 d 47 95 [some (rf 58), some (it v1), some (it v2), some (it (zand (s3 57 13) (zxor (zshl 1 v2) (-1)))), some (it (zand (s3 57 12) (zxor (zshl 1 v1) (-1)))), none, none, none] [it 0] s3 (qi P)) ∧ (¬ (zand (zshr (s3 61 (zw ((zw (6 * v1)) + v2))) (s3 57 11)) 1 = 0) → Fr xs L T0 106 d 47 95 [some (rf 58), some (it v1), some (it v2), some (it (zand (s3 57 13) (zxor (zshl 1 v2) (-1)))), some (it (zand (s3 57 12) (zxor (zshl 1 v1) (-1)))), none, none, none] [it 1] s3 (qi P)))) ∧ (¬ (¬ zand (zshr (s3 57 13) v2) 1 = 0) → P 0 s3))))))))))) : Fr xs L T0 106 d 47 0 [some (rf 58), some (it v1), some (it v2), none, none, none, none, none] [] s (qi P) := by
  refine Fr.aldn (c := 58) (by decide +kernel : zi 47 0 = some (.aload_n 0, 1)) rfl ⟨by omega, by omega⟩ ?_
  refine Fr.gR (c := 57) (c2 := 2) (ci := 3) (k := 0) 0 (by decide +kernel : zi 47 1 = some (.getfield 30, 3)) (by decide +kernel) (by decide +kernel) (by decide +kernel) (by decide) rfl (fun q => q (57, 0, 2) (by decide +kernel)) ?_
  refine Fr.ildn (by decide +kernel : zi 47 4 = some (.iload_n 1, 1)) rfl ?_
  refine Fr.callI (y2 := 2) (na := 2) (as := [rf 2, it v1]) (rest := []) (by decide +kernel : zi 47 5 = some (.invokevirtual 99, 3)) rfl (by decide +kernel) (by decide +kernel) rfl rfl (zok_V rfl (by decide) (by decide +kernel) (by decide +kernel) (zrecv_c (c := 1) (by decide) (by decide +kernel)) rfl (Nat.le_of_ble_eq_true rfl)) h (fun r2 s1 h => ?_)
  refine Fr.if0 (q := 44) (by decide +kernel : zi 47 8 = some (.ifCond .eq 36, 3)) (by decide +kernel) (fun g9 => ?_) (fun g9 => ?_)
  · have h := h.1 g9
    refine Fr.iconst (by decide +kernel : zi 47 44 = some (.iconst 0, 1)) (by decide) ?_
    exact Fr.retZ (by decide +kernel : zi 47 45 = some (.ireturn, 1)) (by decide +kernel) (by decide) h
  · have h := h.2 g9
    refine Fr.aldn (c := 58) (by decide +kernel : zi 47 11 = some (.aload_n 0, 1)) rfl ⟨by omega, by omega⟩ ?_
    refine Fr.gR (c := 57) (c2 := 2) (ci := 3) (k := 0) 0 (by decide +kernel : zi 47 12 = some (.getfield 30, 3)) (by decide +kernel) (by decide +kernel) (by decide +kernel) (by decide) rfl (fun q => q (57, 0, 2) (by decide +kernel)) ?_
    refine Fr.ildn (by decide +kernel : zi 47 15 = some (.iload_n 2, 1)) rfl ?_
    refine Fr.callI (y2 := 2) (na := 2) (as := [rf 2, it v2]) (rest := []) (by decide +kernel : zi 47 16 = some (.invokevirtual 99, 3)) rfl (by decide +kernel) (by decide +kernel) rfl rfl (zok_V rfl (by decide) (by decide +kernel) (by decide +kernel) (zrecv_c (c := 1) (by decide) (by decide +kernel)) rfl (Nat.le_of_ble_eq_true rfl)) h (fun r4 s3 h => ?_)
    refine Fr.if0 (q := 44) (by decide +kernel : zi 47 19 = some (.ifCond .eq 25, 3)) (by decide +kernel) (fun g9 => ?_) (fun g9 => ?_)
    · have h := h.1 g9
      refine Fr.iconst (by decide +kernel : zi 47 44 = some (.iconst 0, 1)) (by decide) ?_
      exact Fr.retZ (by decide +kernel : zi 47 45 = some (.ireturn, 1)) (by decide +kernel) (by decide) h
    · have h := h.2 g9
      refine Fr.aldn (c := 58) (by decide +kernel : zi 47 22 = some (.aload_n 0, 1)) rfl ⟨by omega, by omega⟩ ?_
      refine Fr.gI (c := 57) (ci := 3) (k := 12) (t := 0) 12 (by decide +kernel : zi 47 23 = some (.getfield 117, 3)) (by decide +kernel) (by decide +kernel) (by decide +kernel) (by decide) rfl ?_
      refine Fr.ildn (by decide +kernel : zi 47 26 = some (.iload_n 1, 1)) rfl ?_
      refine Fr.ishr (by decide +kernel : zi 47 27 = some (.ishr, 1)) ?_
      refine Fr.iconst (by decide +kernel : zi 47 28 = some (.iconst 1, 1)) (by decide) ?_
      refine Fr.iand (by decide +kernel : zi 47 29 = some (.iand, 1)) ?_
      refine Fr.if0 (q := 44) (by decide +kernel : zi 47 30 = some (.ifCond .eq 14, 3)) (by decide +kernel) (fun g9 => ?_) (fun g9 => ?_)
      · have h := h.1 g9
        refine Fr.iconst (by decide +kernel : zi 47 44 = some (.iconst 0, 1)) (by decide) ?_
        exact Fr.retZ (by decide +kernel : zi 47 45 = some (.ireturn, 1)) (by decide +kernel) (by decide) h
      · have h := h.2 g9
        refine Fr.aldn (c := 58) (by decide +kernel : zi 47 33 = some (.aload_n 0, 1)) rfl ⟨by omega, by omega⟩ ?_
        refine Fr.gI (c := 57) (ci := 3) (k := 13) (t := 0) 13 (by decide +kernel : zi 47 34 = some (.getfield 120, 3)) (by decide +kernel) (by decide +kernel) (by decide +kernel) (by decide) rfl ?_
        refine Fr.ildn (by decide +kernel : zi 47 37 = some (.iload_n 2, 1)) rfl ?_
        refine Fr.ishr (by decide +kernel : zi 47 38 = some (.ishr, 1)) ?_
        refine Fr.iconst (by decide +kernel : zi 47 39 = some (.iconst 1, 1)) (by decide) ?_
        refine Fr.iand (by decide +kernel : zi 47 40 = some (.iand, 1)) ?_
        refine Fr.if0 (q := 46) (by decide +kernel : zi 47 41 = some (.ifCond .ne 5, 3)) (by decide +kernel) (fun g9 => ?_) (fun g9 => ?_)
        · have h := h.1 g9
          refine Fr.aldn (c := 58) (by decide +kernel : zi 47 46 = some (.aload_n 0, 1)) rfl ⟨by omega, by omega⟩ ?_
          refine Fr.gI (c := 57) (ci := 3) (k := 13) (t := 0) 13 (by decide +kernel : zi 47 47 = some (.getfield 120, 3)) (by decide +kernel) (by decide +kernel) (by decide +kernel) (by decide) rfl ?_
          refine Fr.iconst (by decide +kernel : zi 47 50 = some (.iconst 1, 1)) (by decide) ?_
          refine Fr.ildn (by decide +kernel : zi 47 51 = some (.iload_n 2, 1)) rfl ?_
          refine Fr.ishl (by decide +kernel : zi 47 52 = some (.ishl, 1)) ?_
          refine Fr.iconst (by decide +kernel : zi 47 53 = some (.iconst (-1), 1)) (by decide) ?_
          refine Fr.ixor (by decide +kernel : zi 47 54 = some (.ixor, 1)) ?_
          refine Fr.iand (by decide +kernel : zi 47 55 = some (.iand, 1)) ?_
          refine Fr.istn (lv2 := [some (rf 58), some (it v1), some (it v2), some (it (zand (s3 57 13) (zxor (zshl 1 v2) (-1)))), none, none, none, none]) (by decide +kernel : zi 47 56 = some (.istore_n 3, 1)) (Nat.le_of_ble_eq_true rfl) rfl ?_
          refine Fr.aldn (c := 58) (by decide +kernel : zi 47 57 = some (.aload_n 0, 1)) rfl ⟨by omega, by omega⟩ ?_
          refine Fr.gI (c := 57) (ci := 3) (k := 12) (t := 0) 12 (by decide +kernel : zi 47 58 = some (.getfield 117, 3)) (by decide +kernel) (by decide +kernel) (by decide +kernel) (by decide) rfl ?_
          refine Fr.iconst (by decide +kernel : zi 47 61 = some (.iconst 1, 1)) (by decide) ?_
          refine Fr.ildn (by decide +kernel : zi 47 62 = some (.iload_n 1, 1)) rfl ?_
          refine Fr.ishl (by decide +kernel : zi 47 63 = some (.ishl, 1)) ?_
          refine Fr.iconst (by decide +kernel : zi 47 64 = some (.iconst (-1), 1)) (by decide) ?_
          refine Fr.ixor (by decide +kernel : zi 47 65 = some (.ixor, 1)) ?_
          refine Fr.iand (by decide +kernel : zi 47 66 = some (.iand, 1)) ?_
          refine Fr.ist (lv2 := [some (rf 58), some (it v1), some (it v2), some (it (zand (s3 57 13) (zxor (zshl 1 v2) (-1)))), some (it (zand (s3 57 12) (zxor (zshl 1 v1) (-1)))), none, none, none]) (by decide +kernel : zi 47 67 = some (.istore 4, 2)) (Nat.le_of_ble_eq_true rfl) rfl ?_
          refine Fr.aldn (c := 58) (by decide +kernel : zi 47 69 = some (.aload_n 0, 1)) rfl ⟨by omega, by omega⟩ ?_
          refine Fr.gR (c := 57) (c2 := 62) (ci := 3) (k := 5) 5 (by decide +kernel : zi 47 70 = some (.getfield 21, 3)) (by decide +kernel) (by decide +kernel) (by decide +kernel) (by decide) rfl (fun q => q (57, 5, 62) (by decide +kernel)) ?_
          refine Fr.bipush (by decide +kernel : zi 47 73 = some (.bipush 6, 2)) (by decide) ?_
          refine Fr.ildn (by decide +kernel : zi 47 75 = some (.iload_n 1, 1)) rfl ?_
          refine Fr.imul (by decide +kernel : zi 47 76 = some (.imul, 1)) ?_
          refine Fr.ildn (by decide +kernel : zi 47 77 = some (.iload_n 2, 1)) rfl ?_
          refine Fr.iadd (by decide +kernel : zi 47 78 = some (.iadd, 1)) ?_
          obtain ⟨⟨g0, g1⟩, h⟩ := h
          refine Fr.iald (c := 61) (N := 36) (by decide +kernel : zi 47 79 = some (.iaload, 1)) (by decide +kernel) (by decide) g0 g1 ?_
          refine Fr.aldn (c := 58) (by decide +kernel : zi 47 80 = some (.aload_n 0, 1)) rfl ⟨by omega, by omega⟩ ?_
          refine Fr.gI (c := 57) (ci := 3) (k := 11) (t := 0) 11 (by decide +kernel : zi 47 81 = some (.getfield 114, 3)) (by decide +kernel) (by decide +kernel) (by decide +kernel) (by decide) rfl ?_
          refine Fr.ishr (by decide +kernel : zi 47 84 = some (.ishr, 1)) ?_
          refine Fr.iconst (by decide +kernel : zi 47 85 = some (.iconst 1, 1)) (by decide) ?_
          refine Fr.iand (by decide +kernel : zi 47 86 = some (.iand, 1)) ?_
          refine Fr.if0 (q := 94) (by decide +kernel : zi 47 87 = some (.ifCond .eq 7, 3)) (by decide +kernel) (fun g9 => ?_) (fun g9 => ?_)
          · have h := h.1 g9
            refine Fr.iconst (by decide +kernel : zi 47 94 = some (.iconst 0, 1)) (by decide) ?_
            exact h
          · have h := h.2 g9
            refine Fr.iconst (by decide +kernel : zi 47 90 = some (.iconst 1, 1)) (by decide) ?_
            refine Fr.goto (q := 95) (by decide +kernel : zi 47 91 = some (.goto 4, 3)) (by decide +kernel) ?_
            exact h
        · have h := h.2 g9
          refine Fr.iconst (by decide +kernel : zi 47 44 = some (.iconst 0, 1)) (by decide) ?_
          exact Fr.retZ (by decide +kernel : zi 47 45 = some (.ireturn, 1)) (by decide +kernel) (by decide) h
theorem e47 {xs : Nat → Int} {L : Nat} {d : Nat} {v1 : Int} {v2 : Int} {s : Pl} {Q : Option AV → Pl → Prop} (hd : 1 ≤ d) (k : Fr xs L T0 106 (d - 1) 47 0 [some (rf 58), some (it v1), some (it v2), none, none, none, none, none] [] s Q) : Ev xs L T0 106 d 47 [rf 58, it v1, it v2] s Q := Ev.of (by decide) _ rfl hd k
theorem f47_95 {xs : Nat → Int} {L : Nat} {d : Nat} {v1 : Int} {v2 : Int} {v3 : Int} {v4 : Int} {vs0 : Int} {s : Pl} {P : Int → Pl → Prop} (h : ((¬ zand (zshr (s 57 9) v1) 1 = 0 → Fr xs L T0 106 d 47 143 [some (rf 58), some (it v1), some (it v2), some (it v3), some (it v4), some (it vs0), none, none] [] s (qi P)) ∧ (¬ (¬ zand (zshr (s 57 9) v1) 1 = 0) → ((zand (zshr (s 57 6) v1) 1 = 0 → Fr xs L T0 106 d 47 139 [some (rf 58), some (it v1), some (it v2), some (it v3), some (it v4), some (it vs0), none, none] [] s (qi P)) ∧ (¬ (zand (zshr (s 57 6) v1) 1 = 0) → (0 ≤ v1 ∧ v1 < 6) ∧ ((s 4 v1 = s 57 11 → Fr xs L T0 106 d 47 139 [some (rf 58), some (it v1), some (it v2), some (it v3), some (it v4), some (it vs0), none, none] [] s (qi P)) ∧ (¬ (s 4 v1 = s 57 11) → ((v3 = 0 → Fr xs L T0 106 d 47 143 [some (rf 58), some (it v1), some (it v2), some (it v3), some (it v4), some (it vs0), none, none] [] s (qi P)) ∧ (¬ (v3 = 0) → Fr xs L T0 106 d 47 139 [some (rf 58), some (it v1), some (it v2), some (it v3), some (it v4), some (it vs0), none, none] [] s (qi P)))))))))) : Fr xs L T0 106 d 47 95 [some (rf 58), some (it v1), some (it v2), some (it v3), some (it v4), none, none, none] [it vs0] s (qi P) := by
  refine Fr.ist (lv2 := [some (rf 58), some (it v1), some (it v2), some (it v3), some (it v4), some (it vs0), none, none]) (by decide +kernel : zi 47 95 = some (.istore 5, 2)) (Nat.le_of_ble_eq_true rfl) rfl ?_
  refine Fr.aldn (c := 58) (by decide +kernel : zi 47 97 = some (.aload_n 0, 1)) rfl ⟨by omega, by omega⟩ ?_
  refine Fr.gI (c := 57) (ci := 3) (k := 9) (t := 0) 9 (by decide +kernel : zi 47 98 = some (.getfield 54, 3)) (by decide +kernel) (by decide +kernel) (by decide +kernel) (by decide) rfl ?_
  refine Fr.ildn (by decide +kernel : zi 47 101 = some (.iload_n 1, 1)) rfl ?_
  refine Fr.ishr (by decide +kernel : zi 47 102 = some (.ishr, 1)) ?_
  refine Fr.iconst (by decide +kernel : zi 47 103 = some (.iconst 1, 1)) (by decide) ?_
  refine Fr.iand (by decide +kernel : zi 47 104 = some (.iand, 1)) ?_
  refine Fr.if0 (q := 143) (by decide +kernel : zi 47 105 = some (.ifCond .ne 38, 3)) (by decide +kernel) (fun g9 => ?_) (fun g9 => ?_)
  · have h := h.1 g9
    exact h
  · have h := h.2 g9
    refine Fr.aldn (c := 58) (by decide +kernel : zi 47 108 = some (.aload_n 0, 1)) rfl ⟨by omega, by omega⟩ ?_
    refine Fr.gI (c := 57) (ci := 3) (k := 6) (t := 0) 6 (by decide +kernel : zi 47 109 = some (.getfield 44, 3)) (by decide +kernel) (by decide +kernel) (by decide +kernel) (by decide) rfl ?_
    refine Fr.ildn (by decide +kernel : zi 47 112 = some (.iload_n 1, 1)) rfl ?_
    refine Fr.ishr (by decide +kernel : zi 47 113 = some (.ishr, 1)) ?_
    refine Fr.iconst (by decide +kernel : zi 47 114 = some (.iconst 1, 1)) (by decide) ?_
    refine Fr.iand (by decide +kernel : zi 47 115 = some (.iand, 1)) ?_
    refine Fr.if0 (q := 139) (by decide +kernel : zi 47 116 = some (.ifCond .eq 23, 3)) (by decide +kernel) (fun g9 => ?_) (fun g9 => ?_)
    · have h := h.1 g9
      exact h
    · have h := h.2 g9
      refine Fr.aldn (c := 58) (by decide +kernel : zi 47 119 = some (.aload_n 0, 1)) rfl ⟨by omega, by omega⟩ ?_
      refine Fr.gR (c := 57) (c2 := 2) (ci := 3) (k := 0) 0 (by decide +kernel : zi 47 120 = some (.getfield 30, 3)) (by decide +kernel) (by decide +kernel) (by decide +kernel) (by decide) rfl (fun q => q (57, 0, 2) (by decide +kernel)) ?_
      refine Fr.gR (c := 1) (c2 := 5) (ci := 0) (k := 5) 5 (by decide +kernel : zi 47 123 = some (.getfield 102, 3)) (by decide +kernel) (by decide +kernel) (by decide +kernel) (by decide) rfl (fun q => q (1, 5, 5) (by decide +kernel)) ?_
      refine Fr.ildn (by decide +kernel : zi 47 126 = some (.iload_n 1, 1)) rfl ?_
      obtain ⟨⟨g0, g1⟩, h⟩ := h
      refine Fr.iald (c := 4) (N := 6) (by decide +kernel : zi 47 127 = some (.iaload, 1)) (by decide +kernel) (by decide) g0 g1 ?_
      refine Fr.aldn (c := 58) (by decide +kernel : zi 47 128 = some (.aload_n 0, 1)) rfl ⟨by omega, by omega⟩ ?_
      refine Fr.gI (c := 57) (ci := 3) (k := 11) (t := 0) 11 (by decide +kernel : zi 47 129 = some (.getfield 114, 3)) (by decide +kernel) (by decide +kernel) (by decide +kernel) (by decide) rfl ?_
      refine Fr.if2 (q := 139) (by decide +kernel : zi 47 132 = some (.if_icmp .eq 7, 3)) (by decide +kernel) (fun g9 => ?_) (fun g9 => ?_)
      · have h := h.1 g9
        exact h
      · have h := h.2 g9
        refine Fr.ildn (by decide +kernel : zi 47 135 = some (.iload_n 3, 1)) rfl ?_
        refine Fr.if0 (q := 143) (by decide +kernel : zi 47 136 = some (.ifCond .eq 7, 3)) (by decide +kernel) (fun g9 => ?_) (fun g9 => ?_)
        · have h := h.1 g9
          exact h
        · have h := h.2 g9
          exact h
theorem f47_139 {xs : Nat → Int} {L : Nat} {d : Nat} {v1 : Int} {v2 : Int} {v3 : Int} {v4 : Int} {v5 : Int} {s : Pl} {P : Int → Pl → Prop} (h : Fr xs L T0 106 d 47 144 [some (rf 58), some (it v1), some (it v2), some (it v3), some (it v4), some (it v5), none, none] [it 1] s (qi P)) : Fr xs L T0 106 d 47 139 [some (rf 58), some (it v1), some (it v2), some (it v3), some (it v4), some (it v5), none, none] [] s (qi P) := by
  refine Fr.iconst (by decide +kernel : zi 47 139 = some (.iconst 1, 1)) (by decide) ?_
  refine Fr.goto (q := 144) (by decide +kernel : zi 47 140 = some (.goto 4, 3)) (by decide +kernel) ?_
  exact h
theorem f47_143 {xs : Nat → Int} {L : Nat} {d : Nat} {v1 : Int} {v2 : Int} {v3 : Int} {v4 : Int} {v5 : Int} {s : Pl} {P : Int → Pl → Prop} (h : Fr xs L T0 106 d 47 144 [some (rf 58), some (it v1), some (it v2), some (it v3), some (it v4), some (it v5), none, none] [it 0] s (qi P)) : Fr xs L T0 106 d 47 143 [some (rf 58), some (it v1), some (it v2), some (it v3), some (it v4), some (it v5), none, none] [] s (qi P) := by
  refine Fr.iconst (by decide +kernel : zi 47 143 = some (.iconst 0, 1)) (by decide) ?_
  exact h
theorem f47_144 {xs : Nat → Int} {L : Nat} {d : Nat} {v1 : Int} {v2 : Int} {v3 : Int} {v4 : Int} {v5 : Int} {vs0 : Int} {s : Pl} {P : Int → Pl → Prop} (h : (0 ≤ v2 ∧ v2 < 6) ∧ ((¬ zand (s 8 v2) v4 = 0 → Fr xs L T0 106 d 47 193 [some (rf 58), some (it v1), some (it v2), some (it v3), some (it v4), some (it v5), some (it vs0), none] [] s (qi P)) ∧ (¬ (¬ zand (s 8 v2) v4 = 0) → ((zand (zshr (s 57 10) v2) 1 = 0 → Fr xs L T0 106 d 47 189 [some (rf 58), some (it v1), some (it v2), some (it v3), some (it v4), some (it v5), some (it vs0), none] [] s (qi P)) ∧ (¬ (zand (zshr (s 57 10) v2) 1 = 0) → (0 ≤ v2 ∧ v2 < 6) ∧ ((zand (zshr v4 (s 7 v2)) 1 = 0 → Fr xs L T0 106 d 47 193 [some (rf 58), some (it v1), some (it v2), some (it v3), some (it v4), some (it v5), some (it vs0), none] [] s (qi P)) ∧ (¬ (zand (zshr v4 (s 7 v2)) 1 = 0) → Fr xs L T0 106 d 47 189 [some (rf 58), some (it v1), some (it v2), some (it v3), some (it v4), some (it v5), some (it vs0), none] [] s (qi P)))))))) : Fr xs L T0 106 d 47 144 [some (rf 58), some (it v1), some (it v2), some (it v3), some (it v4), some (it v5), none, none] [it vs0] s (qi P) := by
  refine Fr.ist (lv2 := [some (rf 58), some (it v1), some (it v2), some (it v3), some (it v4), some (it v5), some (it vs0), none]) (by decide +kernel : zi 47 144 = some (.istore 6, 2)) (Nat.le_of_ble_eq_true rfl) rfl ?_
  refine Fr.aldn (c := 58) (by decide +kernel : zi 47 146 = some (.aload_n 0, 1)) rfl ⟨by omega, by omega⟩ ?_
  refine Fr.gR (c := 57) (c2 := 2) (ci := 3) (k := 0) 0 (by decide +kernel : zi 47 147 = some (.getfield 30, 3)) (by decide +kernel) (by decide +kernel) (by decide +kernel) (by decide) rfl (fun q => q (57, 0, 2) (by decide +kernel)) ?_
  refine Fr.gR (c := 1) (c2 := 9) (ci := 0) (k := 9) 9 (by decide +kernel : zi 47 150 = some (.getfield 126, 3)) (by decide +kernel) (by decide +kernel) (by decide +kernel) (by decide) rfl (fun q => q (1, 9, 9) (by decide +kernel)) ?_
  refine Fr.ildn (by decide +kernel : zi 47 153 = some (.iload_n 2, 1)) rfl ?_
  obtain ⟨⟨g0, g1⟩, h⟩ := h
  refine Fr.iald (c := 8) (N := 6) (by decide +kernel : zi 47 154 = some (.iaload, 1)) (by decide +kernel) (by decide) g0 g1 ?_
  refine Fr.ild (by decide +kernel : zi 47 155 = some (.iload 4, 2)) rfl ?_
  refine Fr.iand (by decide +kernel : zi 47 157 = some (.iand, 1)) ?_
  refine Fr.if0 (q := 193) (by decide +kernel : zi 47 158 = some (.ifCond .ne 35, 3)) (by decide +kernel) (fun g9 => ?_) (fun g9 => ?_)
  · have h := h.1 g9
    exact h
  · have h := h.2 g9
    refine Fr.aldn (c := 58) (by decide +kernel : zi 47 161 = some (.aload_n 0, 1)) rfl ⟨by omega, by omega⟩ ?_
    refine Fr.gI (c := 57) (ci := 3) (k := 10) (t := 0) 10 (by decide +kernel : zi 47 162 = some (.getfield 57, 3)) (by decide +kernel) (by decide +kernel) (by decide +kernel) (by decide) rfl ?_
    refine Fr.ildn (by decide +kernel : zi 47 165 = some (.iload_n 2, 1)) rfl ?_
    refine Fr.ishr (by decide +kernel : zi 47 166 = some (.ishr, 1)) ?_
    refine Fr.iconst (by decide +kernel : zi 47 167 = some (.iconst 1, 1)) (by decide) ?_
    refine Fr.iand (by decide +kernel : zi 47 168 = some (.iand, 1)) ?_
    refine Fr.if0 (q := 189) (by decide +kernel : zi 47 169 = some (.ifCond .eq 20, 3)) (by decide +kernel) (fun g9 => ?_) (fun g9 => ?_)
    · have h := h.1 g9
      exact h
    · have h := h.2 g9
      refine Fr.ild (by decide +kernel : zi 47 172 = some (.iload 4, 2)) rfl ?_
      refine Fr.aldn (c := 58) (by decide +kernel : zi 47 174 = some (.aload_n 0, 1)) rfl ⟨by omega, by omega⟩ ?_
      refine Fr.gR (c := 57) (c2 := 2) (ci := 3) (k := 0) 0 (by decide +kernel : zi 47 175 = some (.getfield 30, 3)) (by decide +kernel) (by decide +kernel) (by decide +kernel) (by decide) rfl (fun q => q (57, 0, 2) (by decide +kernel)) ?_
      refine Fr.gR (c := 1) (c2 := 8) (ci := 0) (k := 8) 8 (by decide +kernel : zi 47 178 = some (.getfield 129, 3)) (by decide +kernel) (by decide +kernel) (by decide +kernel) (by decide) rfl (fun q => q (1, 8, 8) (by decide +kernel)) ?_
      refine Fr.ildn (by decide +kernel : zi 47 181 = some (.iload_n 2, 1)) rfl ?_
      obtain ⟨⟨g0, g1⟩, h⟩ := h
      refine Fr.iald (c := 7) (N := 6) (by decide +kernel : zi 47 182 = some (.iaload, 1)) (by decide +kernel) (by decide) g0 g1 ?_
      refine Fr.ishr (by decide +kernel : zi 47 183 = some (.ishr, 1)) ?_
      refine Fr.iconst (by decide +kernel : zi 47 184 = some (.iconst 1, 1)) (by decide) ?_
      refine Fr.iand (by decide +kernel : zi 47 185 = some (.iand, 1)) ?_
      refine Fr.if0 (q := 193) (by decide +kernel : zi 47 186 = some (.ifCond .eq 7, 3)) (by decide +kernel) (fun g9 => ?_) (fun g9 => ?_)
      · have h := h.1 g9
        exact h
      · have h := h.2 g9
        exact h
theorem f47_189 {xs : Nat → Int} {L : Nat} {d : Nat} {v1 : Int} {v2 : Int} {v3 : Int} {v4 : Int} {v5 : Int} {v6 : Int} {s : Pl} {P : Int → Pl → Prop} (h : Fr xs L T0 106 d 47 194 [some (rf 58), some (it v1), some (it v2), some (it v3), some (it v4), some (it v5), some (it v6), none] [it 1] s (qi P)) : Fr xs L T0 106 d 47 189 [some (rf 58), some (it v1), some (it v2), some (it v3), some (it v4), some (it v5), some (it v6), none] [] s (qi P) := by
  refine Fr.iconst (by decide +kernel : zi 47 189 = some (.iconst 1, 1)) (by decide) ?_
  refine Fr.goto (q := 194) (by decide +kernel : zi 47 190 = some (.goto 4, 3)) (by decide +kernel) ?_
  exact h
theorem f47_193 {xs : Nat → Int} {L : Nat} {d : Nat} {v1 : Int} {v2 : Int} {v3 : Int} {v4 : Int} {v5 : Int} {v6 : Int} {s : Pl} {P : Int → Pl → Prop} (h : Fr xs L T0 106 d 47 194 [some (rf 58), some (it v1), some (it v2), some (it v3), some (it v4), some (it v5), some (it v6), none] [it 0] s (qi P)) : Fr xs L T0 106 d 47 193 [some (rf 58), some (it v1), some (it v2), some (it v3), some (it v4), some (it v5), some (it v6), none] [] s (qi P) := by
  refine Fr.iconst (by decide +kernel : zi 47 193 = some (.iconst 0, 1)) (by decide) ?_
  exact h
theorem f47_194 {xs : Nat → Int} {L : Nat} {d : Nat} {v1 : Int} {v2 : Int} {v3 : Int} {v4 : Int} {v5 : Int} {v6 : Int} {vs0 : Int} {s : Pl} {P : Int → Pl → Prop} (h : ((v5 = 0 → P 0 s) ∧ (¬ (v5 = 0) → ((v6 = 0 → P 0 s) ∧ (¬ (v6 = 0) → ((vs0 = 0 → P 0 s) ∧ (¬ (vs0 = 0) → Ev xs L T0 106 d 48 [rf 58, it (zor v3 (zshl 1 v1))] s (qi fun r2 s1 => ((r2 = 0 → P 0 s1) ∧ (¬ (r2 = 0) → P 1 s1)))))))))) : Fr xs L T0 106 d 47 194 [some (rf 58), some (it v1), some (it v2), some (it v3), some (it v4), some (it v5), some (it v6), none] [it vs0] s (qi P) := by
  refine Fr.ist (lv2 := [some (rf 58), some (it v1), some (it v2), some (it v3), some (it v4), some (it v5), some (it v6), some (it vs0)]) (by decide +kernel : zi 47 194 = some (.istore 7, 2)) (Nat.le_of_ble_eq_true rfl) rfl ?_
  refine Fr.ild (by decide +kernel : zi 47 196 = some (.iload 5, 2)) rfl ?_
  refine Fr.if0 (q := 227) (by decide +kernel : zi 47 198 = some (.ifCond .eq 29, 3)) (by decide +kernel) (fun g9 => ?_) (fun g9 => ?_)
  · have h := h.1 g9
    refine Fr.iconst (by decide +kernel : zi 47 227 = some (.iconst 0, 1)) (by decide) ?_
    exact Fr.retZ (by decide +kernel : zi 47 228 = some (.ireturn, 1)) (by decide +kernel) (by decide) h
  · have h := h.2 g9
    refine Fr.ild (by decide +kernel : zi 47 201 = some (.iload 6, 2)) rfl ?_
    refine Fr.if0 (q := 227) (by decide +kernel : zi 47 203 = some (.ifCond .eq 24, 3)) (by decide +kernel) (fun g9 => ?_) (fun g9 => ?_)
    · have h := h.1 g9
      refine Fr.iconst (by decide +kernel : zi 47 227 = some (.iconst 0, 1)) (by decide) ?_
      exact Fr.retZ (by decide +kernel : zi 47 228 = some (.ireturn, 1)) (by decide +kernel) (by decide) h
    · have h := h.2 g9
      refine Fr.ild (by decide +kernel : zi 47 206 = some (.iload 7, 2)) rfl ?_
      refine Fr.if0 (q := 227) (by decide +kernel : zi 47 208 = some (.ifCond .eq 19, 3)) (by decide +kernel) (fun g9 => ?_) (fun g9 => ?_)
      · have h := h.1 g9
        refine Fr.iconst (by decide +kernel : zi 47 227 = some (.iconst 0, 1)) (by decide) ?_
        exact Fr.retZ (by decide +kernel : zi 47 228 = some (.ireturn, 1)) (by decide +kernel) (by decide) h
      · have h := h.2 g9
        refine Fr.aldn (c := 58) (by decide +kernel : zi 47 211 = some (.aload_n 0, 1)) rfl ⟨by omega, by omega⟩ ?_
        refine Fr.ildn (by decide +kernel : zi 47 212 = some (.iload_n 3, 1)) rfl ?_
        refine Fr.iconst (by decide +kernel : zi 47 213 = some (.iconst 1, 1)) (by decide) ?_
        refine Fr.ildn (by decide +kernel : zi 47 214 = some (.iload_n 1, 1)) rfl ?_
        refine Fr.ishl (by decide +kernel : zi 47 215 = some (.ishl, 1)) ?_
        refine Fr.ior (by decide +kernel : zi 47 216 = some (.ior, 1)) ?_
        refine Fr.callI (y2 := 48) (na := 2) (as := [rf 58, it (zor v3 (zshl 1 v1))]) (rest := []) (by decide +kernel : zi 47 217 = some (.invokevirtual 132, 3)) rfl (by decide +kernel) (by decide +kernel) rfl rfl (zok_V rfl (by decide) (by decide +kernel) (by decide +kernel) (zrecv_c (c := 57) (by decide) (by decide +kernel)) rfl (Nat.le_of_ble_eq_true rfl)) h (fun r2 s1 h => ?_)
        refine Fr.if0 (q := 227) (by decide +kernel : zi 47 220 = some (.ifCond .eq 7, 3)) (by decide +kernel) (fun g9 => ?_) (fun g9 => ?_)
        · have h := h.1 g9
          refine Fr.iconst (by decide +kernel : zi 47 227 = some (.iconst 0, 1)) (by decide) ?_
          exact Fr.retZ (by decide +kernel : zi 47 228 = some (.ireturn, 1)) (by decide +kernel) (by decide) h
        · have h := h.2 g9
          refine Fr.iconst (by decide +kernel : zi 47 223 = some (.iconst 1, 1)) (by decide) ?_
          refine Fr.goto (q := 228) (by decide +kernel : zi 47 224 = some (.goto 4, 3)) (by decide +kernel) ?_
          exact Fr.retZ (by decide +kernel : zi 47 228 = some (.ireturn, 1)) (by decide +kernel) (by decide) h
-- 48 X3_mayStand
theorem f48_0 {xs : Nat → Int} {L : Nat} {d : Nat} {v1 : Int} {s : Pl} {P : Int → Pl → Prop} (h : ((zand v1 (s 57 7) = 0 → Fr xs L T0 106 d 48 17 [some (rf 58), some (it v1)] [] s (qi P)) ∧ (¬ (zand v1 (s 57 7) = 0) → Ev xs L T0 106 d 228 [it v1] s (qi fun r2 s1 => ((r2 ≤ 1 → P 0 s1) ∧ (¬ (r2 ≤ 1) → Fr xs L T0 106 d 48 17 [some (rf 58), some (it v1)] [] s1 (qi P))))))) : Fr xs L T0 106 d 48 0 [some (rf 58), some (it v1)] [] s (qi P) := by
  refine Fr.ildn (by decide +kernel : zi 48 0 = some (.iload_n 1, 1)) rfl ?_
  refine Fr.aldn (c := 58) (by decide +kernel : zi 48 1 = some (.aload_n 0, 1)) rfl ⟨by omega, by omega⟩ ?_
  refine Fr.gI (c := 57) (ci := 3) (k := 7) (t := 0) 7 (by decide +kernel : zi 48 2 = some (.getfield 48, 3)) (by decide +kernel) (by decide +kernel) (by decide +kernel) (by decide) rfl ?_
  refine Fr.iand (by decide +kernel : zi 48 5 = some (.iand, 1)) ?_
  refine Fr.if0 (q := 17) (by decide +kernel : zi 48 6 = some (.ifCond .eq 11, 3)) (by decide +kernel) (fun g9 => ?_) (fun g9 => ?_)
  · have h := h.1 g9
    exact h
  · have h := h.2 g9
    refine Fr.ildn (by decide +kernel : zi 48 9 = some (.iload_n 1, 1)) rfl ?_
    refine Fr.callI (y2 := 228) (na := 1) (as := [it v1]) (rest := []) (by decide +kernel : zi 48 10 = some (.invokestatic 135, 3)) rfl (by decide +kernel) (by decide +kernel) rfl rfl (zok_S rfl (by decide) (by decide +kernel) rfl (Nat.le_of_ble_eq_true rfl)) h (fun r2 s1 h => ?_)
    refine Fr.iconst (by decide +kernel : zi 48 13 = some (.iconst 1, 1)) (by decide) ?_
    refine Fr.if2 (q := 21) (by decide +kernel : zi 48 14 = some (.if_icmp .le 7, 3)) (by decide +kernel) (fun g9 => ?_) (fun g9 => ?_)
    · have h := h.1 g9
      refine Fr.iconst (by decide +kernel : zi 48 21 = some (.iconst 0, 1)) (by decide) ?_
      exact Fr.retZ (by decide +kernel : zi 48 22 = some (.ireturn, 1)) (by decide +kernel) (by decide) h
    · have h := h.2 g9
      exact h
theorem e48 {xs : Nat → Int} {L : Nat} {d : Nat} {v1 : Int} {s : Pl} {Q : Option AV → Pl → Prop} (hd : 1 ≤ d) (k : Fr xs L T0 106 (d - 1) 48 0 [some (rf 58), some (it v1)] [] s Q) : Ev xs L T0 106 d 48 [rf 58, it v1] s Q := Ev.of (by decide) _ rfl hd k
theorem f48_17 {xs : Nat → Int} {L : Nat} {d : Nat} {v1 : Int} {s : Pl} {P : Int → Pl → Prop} (h : P 1 s) : Fr xs L T0 106 d 48 17 [some (rf 58), some (it v1)] [] s (qi P) := by
  refine Fr.iconst (by decide +kernel : zi 48 17 = some (.iconst 1, 1)) (by decide) ?_
  refine Fr.goto (q := 22) (by decide +kernel : zi 48 18 = some (.goto 4, 3)) (by decide +kernel) ?_
  exact Fr.retZ (by decide +kernel : zi 48 22 = some (.ireturn, 1)) (by decide +kernel) (by decide) h
-- 49 X3_listSwaps
theorem f49_0 {xs : Nat → Int} {L : Nat} {d : Nat}  {s : Pl} {P : Pl → Prop} (h : Fr xs L T0 106 d 49 7 [some (rf 58), some (it 0), none] [] (zup s 57 15 0) (qv P)) : Fr xs L T0 106 d 49 0 [some (rf 58), none, none] [] s (qv P) := by
  refine Fr.aldn (c := 58) (by decide +kernel : zi 49 0 = some (.aload_n 0, 1)) rfl ⟨by omega, by omega⟩ ?_
  refine Fr.iconst (by decide +kernel : zi 49 1 = some (.iconst 0, 1)) (by decide) ?_
  refine Fr.pI (c := 57) (ci := 3) (k := 15) 15 (by decide +kernel : zi 49 2 = some (.putfield 140, 3)) (by decide +kernel) (by decide +kernel) (by decide +kernel) (by decide) rfl ?_
  refine Fr.iconst (by decide +kernel : zi 49 5 = some (.iconst 0, 1)) (by decide) ?_
  refine Fr.istn (lv2 := [some (rf 58), some (it 0), none]) (by decide +kernel : zi 49 6 = some (.istore_n 1, 1)) (Nat.le_of_ble_eq_true rfl) rfl ?_
  exact h
theorem e49 {xs : Nat → Int} {L : Nat} {d : Nat}  {s : Pl} {Q : Option AV → Pl → Prop} (hd : 1 ≤ d) (k : Fr xs L T0 106 (d - 1) 49 0 [some (rf 58), none, none] [] s Q) : Ev xs L T0 106 d 49 [rf 58] s Q := Ev.of (by decide) _ rfl hd k
theorem f49_7 {xs : Nat → Int} {L : Nat} {d : Nat} {v1 : Int} {w2 : Option AV} {s : Pl} {P : Pl → Prop} (h : ((s 1 1 ≤ v1 → P s) ∧ (¬ (s 1 1 ≤ v1) → Fr xs L T0 106 d 49 20 [some (rf 58), some (it v1), some (it 0)] [] s (qv P)))) : Fr xs L T0 106 d 49 7 [some (rf 58), some (it v1), w2] [] s (qv P) := by
  refine Fr.ildn (by decide +kernel : zi 49 7 = some (.iload_n 1, 1)) rfl ?_
  refine Fr.aldn (c := 58) (by decide +kernel : zi 49 8 = some (.aload_n 0, 1)) rfl ⟨by omega, by omega⟩ ?_
  refine Fr.gR (c := 57) (c2 := 2) (ci := 3) (k := 0) 0 (by decide +kernel : zi 49 9 = some (.getfield 30, 3)) (by decide +kernel) (by decide +kernel) (by decide +kernel) (by decide) rfl (fun q => q (57, 0, 2) (by decide +kernel)) ?_
  refine Fr.gI (c := 1) (ci := 0) (k := 1) (t := 0) 1 (by decide +kernel : zi 49 12 = some (.getfield 64, 3)) (by decide +kernel) (by decide +kernel) (by decide +kernel) (by decide) rfl ?_
  refine Fr.if2 (q := 94) (by decide +kernel : zi 49 15 = some (.if_icmp .ge 79, 3)) (by decide +kernel) (fun g9 => ?_) (fun g9 => ?_)
  · have h := h.1 g9
    exact Fr.retV (by decide +kernel : zi 49 94 = some (.return_, 1)) (by decide +kernel) h
  · have h := h.2 g9
    refine Fr.iconst (by decide +kernel : zi 49 18 = some (.iconst 0, 1)) (by decide) ?_
    refine Fr.istn (lv2 := [some (rf 58), some (it v1), some (it 0)]) (by decide +kernel : zi 49 19 = some (.istore_n 2, 1)) (Nat.le_of_ble_eq_true rfl) rfl ?_
    exact h
theorem f49_20 {xs : Nat → Int} {L : Nat} {d : Nat} {v1 : Int} {v2 : Int} {s : Pl} {P : Pl → Prop} (h : ((s 1 1 ≤ v2 → Fr xs L T0 106 d 49 88 [some (rf 58), some (it v1), some (it v2)] [] s (qv P)) ∧ (¬ (s 1 1 ≤ v2) → ((36 ≤ s 57 15 → Fr xs L T0 106 d 49 88 [some (rf 58), some (it v1), some (it v2)] [] s (qv P)) ∧ (¬ (36 ≤ s 57 15) → Ev xs L T0 106 d 47 [rf 58, it v1, it v2] s (qi fun r2 s1 => ((r2 = 0 → Fr xs L T0 106 d 49 82 [some (rf 58), some (it v1), some (it v2)] [] s1 (qv P)) ∧ (¬ (r2 = 0) → (0 ≤ s1 57 15 ∧ s1 57 15 < 36) ∧ (0 ≤ (zup s1 62 (s1 57 15) v1) 57 15 ∧ (zup s1 62 (s1 57 15) v1) 57 15 < 36) ∧ Fr xs L T0 106 d 49 82 [some (rf 58), some (it v1), some (it v2)] [] (zup (zup (zup s1 62 (s1 57 15) v1) 63 ((zup s1 62 (s1 57 15) v1) 57 15) v2) 57 15 (zw (((zup (zup s1 62 (s1 57 15) v1) 63 ((zup s1 62 (s1 57 15) v1) 57 15) v2) 57 15) + 1))) (qv P))))))))) : Fr xs L T0 106 d 49 20 [some (rf 58), some (it v1), some (it v2)] [] s (qv P) := by
  refine Fr.ildn (by decide +kernel : zi 49 20 = some (.iload_n 2, 1)) rfl ?_
  refine Fr.aldn (c := 58) (by decide +kernel : zi 49 21 = some (.aload_n 0, 1)) rfl ⟨by omega, by omega⟩ ?_
  refine Fr.gR (c := 57) (c2 := 2) (ci := 3) (k := 0) 0 (by decide +kernel : zi 49 22 = some (.getfield 30, 3)) (by decide +kernel) (by decide +kernel) (by decide +kernel) (by decide) rfl (fun q => q (57, 0, 2) (by decide +kernel)) ?_
  refine Fr.gI (c := 1) (ci := 0) (k := 1) (t := 0) 1 (by decide +kernel : zi 49 25 = some (.getfield 64, 3)) (by decide +kernel) (by decide +kernel) (by decide +kernel) (by decide) rfl ?_
  refine Fr.if2 (q := 88) (by decide +kernel : zi 49 28 = some (.if_icmp .ge 60, 3)) (by decide +kernel) (fun g9 => ?_) (fun g9 => ?_)
  · have h := h.1 g9
    exact h
  · have h := h.2 g9
    refine Fr.aldn (c := 58) (by decide +kernel : zi 49 31 = some (.aload_n 0, 1)) rfl ⟨by omega, by omega⟩ ?_
    refine Fr.gI (c := 57) (ci := 3) (k := 15) (t := 0) 15 (by decide +kernel : zi 49 32 = some (.getfield 140, 3)) (by decide +kernel) (by decide +kernel) (by decide +kernel) (by decide) rfl ?_
    refine Fr.aldn (c := 58) (by decide +kernel : zi 49 35 = some (.aload_n 0, 1)) rfl ⟨by omega, by omega⟩ ?_
    refine Fr.gR (c := 57) (c2 := 63) (ci := 3) (k := 16) 16 (by decide +kernel : zi 49 36 = some (.getfield 24, 3)) (by decide +kernel) (by decide +kernel) (by decide +kernel) (by decide) rfl (fun q => q (57, 16, 63) (by decide +kernel)) ?_
    refine Fr.alen (c := 62) (N := 36) (K := 20) (by decide +kernel : zi 49 39 = some (.arraylength, 1)) (by decide +kernel) (by decide) (by decide) ?_
    refine Fr.if2 (q := 88) (by decide +kernel : zi 49 40 = some (.if_icmp .ge 48, 3)) (by decide +kernel) (fun g9 => ?_) (fun g9 => ?_)
    · have h := h.1 g9
      exact h
    · have h := h.2 g9
      refine Fr.aldn (c := 58) (by decide +kernel : zi 49 43 = some (.aload_n 0, 1)) rfl ⟨by omega, by omega⟩ ?_
      refine Fr.ildn (by decide +kernel : zi 49 44 = some (.iload_n 1, 1)) rfl ?_
      refine Fr.ildn (by decide +kernel : zi 49 45 = some (.iload_n 2, 1)) rfl ?_
      refine Fr.callI (y2 := 47) (na := 3) (as := [rf 58, it v1, it v2]) (rest := []) (by decide +kernel : zi 49 46 = some (.invokevirtual 143, 3)) rfl (by decide +kernel) (by decide +kernel) rfl rfl (zok_V rfl (by decide) (by decide +kernel) (by decide +kernel) (zrecv_c (c := 57) (by decide) (by decide +kernel)) rfl (Nat.le_of_ble_eq_true rfl)) h (fun r2 s1 h => ?_)
      refine Fr.if0 (q := 82) (by decide +kernel : zi 49 49 = some (.ifCond .eq 33, 3)) (by decide +kernel) (fun g9 => ?_) (fun g9 => ?_)
      · have h := h.1 g9
        exact h
      · have h := h.2 g9
        refine Fr.aldn (c := 58) (by decide +kernel : zi 49 52 = some (.aload_n 0, 1)) rfl ⟨by omega, by omega⟩ ?_
        refine Fr.gR (c := 57) (c2 := 63) (ci := 3) (k := 16) 16 (by decide +kernel : zi 49 53 = some (.getfield 24, 3)) (by decide +kernel) (by decide +kernel) (by decide +kernel) (by decide) rfl (fun q => q (57, 16, 63) (by decide +kernel)) ?_
        refine Fr.aldn (c := 58) (by decide +kernel : zi 49 56 = some (.aload_n 0, 1)) rfl ⟨by omega, by omega⟩ ?_
        refine Fr.gI (c := 57) (ci := 3) (k := 15) (t := 0) 15 (by decide +kernel : zi 49 57 = some (.getfield 140, 3)) (by decide +kernel) (by decide +kernel) (by decide +kernel) (by decide) rfl ?_
        refine Fr.ildn (by decide +kernel : zi 49 60 = some (.iload_n 1, 1)) rfl ?_
        obtain ⟨⟨g0, g1⟩, h⟩ := h
        refine Fr.iast (c := 62) (N := 36) (by decide +kernel : zi 49 61 = some (.iastore, 1)) (by decide +kernel) (by decide) g0 g1 ?_
        refine Fr.aldn (c := 58) (by decide +kernel : zi 49 62 = some (.aload_n 0, 1)) rfl ⟨by omega, by omega⟩ ?_
        refine Fr.gR (c := 57) (c2 := 64) (ci := 3) (k := 17) 17 (by decide +kernel : zi 49 63 = some (.getfield 27, 3)) (by decide +kernel) (by decide +kernel) (by decide +kernel) (by decide) rfl (fun q => q (57, 17, 64) (by decide +kernel)) ?_
        refine Fr.aldn (c := 58) (by decide +kernel : zi 49 66 = some (.aload_n 0, 1)) rfl ⟨by omega, by omega⟩ ?_
        refine Fr.gI (c := 57) (ci := 3) (k := 15) (t := 0) 15 (by decide +kernel : zi 49 67 = some (.getfield 140, 3)) (by decide +kernel) (by decide +kernel) (by decide +kernel) (by decide) rfl ?_
        refine Fr.ildn (by decide +kernel : zi 49 70 = some (.iload_n 2, 1)) rfl ?_
        obtain ⟨⟨g0, g1⟩, h⟩ := h
        refine Fr.iast (c := 63) (N := 36) (by decide +kernel : zi 49 71 = some (.iastore, 1)) (by decide +kernel) (by decide) g0 g1 ?_
        refine Fr.aldn (c := 58) (by decide +kernel : zi 49 72 = some (.aload_n 0, 1)) rfl ⟨by omega, by omega⟩ ?_
        refine Fr.dup (by decide +kernel : zi 49 73 = some (.dup, 1)) rfl ?_
        refine Fr.gI (c := 57) (ci := 3) (k := 15) (t := 0) 15 (by decide +kernel : zi 49 74 = some (.getfield 140, 3)) (by decide +kernel) (by decide +kernel) (by decide +kernel) (by decide) rfl ?_
        refine Fr.iconst (by decide +kernel : zi 49 77 = some (.iconst 1, 1)) (by decide) ?_
        refine Fr.iadd (by decide +kernel : zi 49 78 = some (.iadd, 1)) ?_
        refine Fr.pI (c := 57) (ci := 3) (k := 15) 15 (by decide +kernel : zi 49 79 = some (.putfield 140, 3)) (by decide +kernel) (by decide +kernel) (by decide +kernel) (by decide) rfl ?_
        exact h
theorem f49_82 {xs : Nat → Int} {L : Nat} {d : Nat} {v1 : Int} {v2 : Int} {s : Pl} {P : Pl → Prop} (h : Fr xs L T0 106 d 49 20 [some (rf 58), some (it v1), some (it (zw (v2 + 1)))] [] s (qv P)) : Fr xs L T0 106 d 49 82 [some (rf 58), some (it v1), some (it v2)] [] s (qv P) := by
  refine Fr.iinc (lv2 := [some (rf 58), some (it v1), some (it (zw (v2 + 1)))]) (by decide +kernel : zi 49 82 = some (.iinc 2 1, 3)) (Nat.le_of_ble_eq_true rfl) rfl rfl ?_
  refine Fr.goto (q := 20) (by decide +kernel : zi 49 85 = some (.goto (-65), 3)) (by decide +kernel) ?_
  exact h
theorem f49_88 {xs : Nat → Int} {L : Nat} {d : Nat} {v1 : Int} {v2 : Int} {s : Pl} {P : Pl → Prop} (h : Fr xs L T0 106 d 49 7 [some (rf 58), some (it (zw (v1 + 1))), some (it v2)] [] s (qv P)) : Fr xs L T0 106 d 49 88 [some (rf 58), some (it v1), some (it v2)] [] s (qv P) := by
  refine Fr.iinc (lv2 := [some (rf 58), some (it (zw (v1 + 1))), some (it v2)]) (by decide +kernel : zi 49 88 = some (.iinc 1 1, 3)) (Nat.le_of_ble_eq_true rfl) rfl rfl ?_
  refine Fr.goto (q := 7) (by decide +kernel : zi 49 91 = some (.goto (-84), 3)) (by decide +kernel) ?_
  exact h
-- 50 X3_longestRow
theorem f50_0 {xs : Nat → Int} {L : Nat} {d : Nat}  {s : Pl} {P : Int → Pl → Prop} (h : Fr xs L T0 106 d 50 4 [some (rf 58), some (it 1), some (it 0)] [] s (qi P)) : Fr xs L T0 106 d 50 0 [some (rf 58), none, none] [] s (qi P) := by
  refine Fr.iconst (by decide +kernel : zi 50 0 = some (.iconst 1, 1)) (by decide) ?_
  refine Fr.istn (lv2 := [some (rf 58), some (it 1), none]) (by decide +kernel : zi 50 1 = some (.istore_n 1, 1)) (Nat.le_of_ble_eq_true rfl) rfl ?_
  refine Fr.iconst (by decide +kernel : zi 50 2 = some (.iconst 0, 1)) (by decide) ?_
  refine Fr.istn (lv2 := [some (rf 58), some (it 1), some (it 0)]) (by decide +kernel : zi 50 3 = some (.istore_n 2, 1)) (Nat.le_of_ble_eq_true rfl) rfl ?_
  exact h
theorem e50 {xs : Nat → Int} {L : Nat} {d : Nat}  {s : Pl} {Q : Option AV → Pl → Prop} (hd : 1 ≤ d) (k : Fr xs L T0 106 (d - 1) 50 0 [some (rf 58), none, none] [] s Q) : Ev xs L T0 106 d 50 [rf 58] s Q := Ev.of (by decide) _ rfl hd k
theorem f50_4 {xs : Nat → Int} {L : Nat} {d : Nat} {v1 : Int} {v2 : Int} {s : Pl} {P : Int → Pl → Prop} (h : ((16 ≤ v2 → P v1 s) ∧ (¬ (16 ≤ v2) → (0 ≤ v2 ∧ v2 < 16) ∧ Ev xs L T0 106 d 230 [it v1, it (s 59 v2)] s (qi fun r2 s1 => Fr xs L T0 106 d 50 4 [some (rf 58), some (it r2), some (it (zw (v2 + 1)))] [] s1 (qi P))))) : Fr xs L T0 106 d 50 4 [some (rf 58), some (it v1), some (it v2)] [] s (qi P) := by
  refine Fr.ildn (by decide +kernel : zi 50 4 = some (.iload_n 2, 1)) rfl ?_
  refine Fr.aldn (c := 58) (by decide +kernel : zi 50 5 = some (.aload_n 0, 1)) rfl ⟨by omega, by omega⟩ ?_
  refine Fr.gR (c := 57) (c2 := 60) (ci := 3) (k := 3) 3 (by decide +kernel : zi 50 6 = some (.getfield 15, 3)) (by decide +kernel) (by decide +kernel) (by decide +kernel) (by decide) rfl (fun q => q (57, 3, 60) (by decide +kernel)) ?_
  refine Fr.alen (c := 59) (N := 16) (K := 20) (by decide +kernel : zi 50 9 = some (.arraylength, 1)) (by decide +kernel) (by decide) (by decide) ?_
  refine Fr.if2 (q := 30) (by decide +kernel : zi 50 10 = some (.if_icmp .ge 20, 3)) (by decide +kernel) (fun g9 => ?_) (fun g9 => ?_)
  · have h := h.1 g9
    refine Fr.ildn (by decide +kernel : zi 50 30 = some (.iload_n 1, 1)) rfl ?_
    exact Fr.retI (by decide +kernel : zi 50 31 = some (.ireturn, 1)) (by decide +kernel) h
  · have h := h.2 g9
    refine Fr.ildn (by decide +kernel : zi 50 13 = some (.iload_n 1, 1)) rfl ?_
    refine Fr.aldn (c := 58) (by decide +kernel : zi 50 14 = some (.aload_n 0, 1)) rfl ⟨by omega, by omega⟩ ?_
    refine Fr.gR (c := 57) (c2 := 60) (ci := 3) (k := 3) 3 (by decide +kernel : zi 50 15 = some (.getfield 15, 3)) (by decide +kernel) (by decide +kernel) (by decide +kernel) (by decide) rfl (fun q => q (57, 3, 60) (by decide +kernel)) ?_
    refine Fr.ildn (by decide +kernel : zi 50 18 = some (.iload_n 2, 1)) rfl ?_
    obtain ⟨⟨g0, g1⟩, h⟩ := h
    refine Fr.iald (c := 59) (N := 16) (by decide +kernel : zi 50 19 = some (.iaload, 1)) (by decide +kernel) (by decide) g0 g1 ?_
    refine Fr.callI (y2 := 230) (na := 2) (as := [it v1, it (s 59 v2)]) (rest := []) (by decide +kernel : zi 50 20 = some (.invokestatic 96, 3)) rfl (by decide +kernel) (by decide +kernel) rfl rfl (zok_S rfl (by decide) (by decide +kernel) rfl (Nat.le_of_ble_eq_true rfl)) h (fun r2 s1 h => ?_)
    refine Fr.istn (lv2 := [some (rf 58), some (it r2), some (it v2)]) (by decide +kernel : zi 50 23 = some (.istore_n 1, 1)) (Nat.le_of_ble_eq_true rfl) rfl ?_
    refine Fr.iinc (lv2 := [some (rf 58), some (it r2), some (it (zw (v2 + 1)))]) (by decide +kernel : zi 50 24 = some (.iinc 2 1, 3)) (Nat.le_of_ble_eq_true rfl) rfl rfl ?_
    refine Fr.goto (q := 4) (by decide +kernel : zi 50 27 = some (.goto (-23), 3)) (by decide +kernel) ?_
    exact h
-- 51 X3_findPaths
theorem f51_0 {xs : Nat → Int} {L : Nat} {d : Nat}  {s : Pl} {P : Pl → Prop} (h : (0 ≤ (0 : Int) ∧ 0 ≤ (0 : Int) ∧ 0 ≤ (16 : Int) ∧ (0 : Int) + 16 ≤ 16 ∧ (0 : Int) + 16 ≤ 16) ∧ Fr xs L T0 106 d 51 20 [some (rf 58), some (it 0), none, none, none] [] (zcopy s 59 0 60 0 16) (qv P)) : Fr xs L T0 106 d 51 0 [some (rf 58), none, none, none, none] [] s (qv P) := by
  refine Fr.aldn (c := 58) (by decide +kernel : zi 51 0 = some (.aload_n 0, 1)) rfl ⟨by omega, by omega⟩ ?_
  refine Fr.gR (c := 57) (c2 := 60) (ci := 3) (k := 3) 3 (by decide +kernel : zi 51 1 = some (.getfield 15, 3)) (by decide +kernel) (by decide +kernel) (by decide +kernel) (by decide) rfl (fun q => q (57, 3, 60) (by decide +kernel)) ?_
  refine Fr.iconst (by decide +kernel : zi 51 4 = some (.iconst 0, 1)) (by decide) ?_
  refine Fr.aldn (c := 58) (by decide +kernel : zi 51 5 = some (.aload_n 0, 1)) rfl ⟨by omega, by omega⟩ ?_
  refine Fr.gR (c := 57) (c2 := 61) (ci := 3) (k := 4) 4 (by decide +kernel : zi 51 6 = some (.getfield 18, 3)) (by decide +kernel) (by decide +kernel) (by decide +kernel) (by decide) rfl (fun q => q (57, 4, 61) (by decide +kernel)) ?_
  refine Fr.iconst (by decide +kernel : zi 51 9 = some (.iconst 0, 1)) (by decide) ?_
  refine Fr.aldn (c := 58) (by decide +kernel : zi 51 10 = some (.aload_n 0, 1)) rfl ⟨by omega, by omega⟩ ?_
  refine Fr.gR (c := 57) (c2 := 60) (ci := 3) (k := 3) 3 (by decide +kernel : zi 51 11 = some (.getfield 15, 3)) (by decide +kernel) (by decide +kernel) (by decide +kernel) (by decide) rfl (fun q => q (57, 3, 60) (by decide +kernel)) ?_
  refine Fr.alen (c := 59) (N := 16) (K := 20) (by decide +kernel : zi 51 14 = some (.arraylength, 1)) (by decide +kernel) (by decide) (by decide) ?_
  obtain ⟨⟨g0, g1, g2, g3, g4⟩, h⟩ := h
  refine Fr.copy (c1 := 59) (c2 := 60) (N1 := 16) (N2 := 16) (by decide +kernel : zi 51 15 = some (.invokestatic 147, 3)) (by decide +kernel) (by decide +kernel) (by decide +kernel) (by decide +kernel) (by decide +kernel) (by decide) (by decide) g0 g1 g2 g3 g4 (Nat.le_of_ble_eq_true rfl) ?_
  refine Fr.iconst (by decide +kernel : zi 51 18 = some (.iconst 0, 1)) (by decide) ?_
  refine Fr.istn (lv2 := [some (rf 58), some (it 0), none, none, none]) (by decide +kernel : zi 51 19 = some (.istore_n 1, 1)) (Nat.le_of_ble_eq_true rfl) rfl ?_
  exact h
theorem e51 {xs : Nat → Int} {L : Nat} {d : Nat}  {s : Pl} {Q : Option AV → Pl → Prop} (hd : 1 ≤ d) (k : Fr xs L T0 106 (d - 1) 51 0 [some (rf 58), none, none, none, none] [] s Q) : Ev xs L T0 106 d 51 [rf 58] s Q := Ev.of (by decide) _ rfl hd k
theorem f51_20 {xs : Nat → Int} {L : Nat} {d : Nat} {v1 : Int} {w2 : Option AV} {w3 : Option AV} {w4 : Option AV} {s : Pl} {P : Pl → Prop} (h : ((4 ≤ v1 → P s) ∧ (¬ (4 ≤ v1) → Fr xs L T0 106 d 51 27 [some (rf 58), some (it v1), some (it 0), w3, w4] [] s (qv P)))) : Fr xs L T0 106 d 51 20 [some (rf 58), some (it v1), w2, w3, w4] [] s (qv P) := by
  refine Fr.ildn (by decide +kernel : zi 51 20 = some (.iload_n 1, 1)) rfl ?_
  refine Fr.iconst (by decide +kernel : zi 51 21 = some (.iconst 4, 1)) (by decide) ?_
  refine Fr.if2 (q := 105) (by decide +kernel : zi 51 22 = some (.if_icmp .ge 83, 3)) (by decide +kernel) (fun g9 => ?_) (fun g9 => ?_)
  · have h := h.1 g9
    exact Fr.retV (by decide +kernel : zi 51 105 = some (.return_, 1)) (by decide +kernel) h
  · have h := h.2 g9
    refine Fr.iconst (by decide +kernel : zi 51 25 = some (.iconst 0, 1)) (by decide) ?_
    refine Fr.istn (lv2 := [some (rf 58), some (it v1), some (it 0), w3, w4]) (by decide +kernel : zi 51 26 = some (.istore_n 2, 1)) (Nat.le_of_ble_eq_true rfl) rfl ?_
    exact h
theorem f51_27 {xs : Nat → Int} {L : Nat} {d : Nat} {v1 : Int} {v2 : Int} {w3 : Option AV} {w4 : Option AV} {s : Pl} {P : Pl → Prop} (h : ((4 ≤ v2 → Fr xs L T0 106 d 51 20 [some (rf 58), some (it (zw (v1 + 1))), some (it v2), w3, w4] [] s (qv P)) ∧ (¬ (4 ≤ v2) → Fr xs L T0 106 d 51 34 [some (rf 58), some (it v1), some (it v2), some (it 0), w4] [] s (qv P)))) : Fr xs L T0 106 d 51 27 [some (rf 58), some (it v1), some (it v2), w3, w4] [] s (qv P) := by
  refine Fr.ildn (by decide +kernel : zi 51 27 = some (.iload_n 2, 1)) rfl ?_
  refine Fr.iconst (by decide +kernel : zi 51 28 = some (.iconst 4, 1)) (by decide) ?_
  refine Fr.if2 (q := 99) (by decide +kernel : zi 51 29 = some (.if_icmp .ge 70, 3)) (by decide +kernel) (fun g9 => ?_) (fun g9 => ?_)
  · have h := h.1 g9
    refine Fr.iinc (lv2 := [some (rf 58), some (it (zw (v1 + 1))), some (it v2), w3, w4]) (by decide +kernel : zi 51 99 = some (.iinc 1 1, 3)) (Nat.le_of_ble_eq_true rfl) rfl rfl ?_
    refine Fr.goto (q := 20) (by decide +kernel : zi 51 102 = some (.goto (-82), 3)) (by decide +kernel) ?_
    exact h
  · have h := h.2 g9
    refine Fr.iconst (by decide +kernel : zi 51 32 = some (.iconst 0, 1)) (by decide) ?_
    refine Fr.istn (lv2 := [some (rf 58), some (it v1), some (it v2), some (it 0), w4]) (by decide +kernel : zi 51 33 = some (.istore_n 3, 1)) (Nat.le_of_ble_eq_true rfl) rfl ?_
    exact h
theorem f51_34 {xs : Nat → Int} {L : Nat} {d : Nat} {v1 : Int} {v2 : Int} {v3 : Int} {w4 : Option AV} {s : Pl} {P : Pl → Prop} (h : ((4 ≤ v3 → Fr xs L T0 106 d 51 27 [some (rf 58), some (it v1), some (it (zw (v2 + 1))), some (it v3), w4] [] s (qv P)) ∧ (¬ (4 ≤ v3) → (0 ≤ zw ((zw (4 * v2)) + v1) ∧ zw ((zw (4 * v2)) + v1) < 16) ∧ (0 ≤ zw ((zw (4 * v1)) + v3) ∧ zw ((zw (4 * v1)) + v3) < 16) ∧ (0 ≤ zw ((zw (4 * v2)) + v3) ∧ zw ((zw (4 * v2)) + v3) < 16) ∧ Ev xs L T0 106 d 231 [it (s 60 (zw ((zw (4 * v2)) + v3))), it (zw ((s 60 (zw ((zw (4 * v2)) + v1))) + (s 60 (zw ((zw (4 * v1)) + v3)))))] s (qi fun r2 s1 => (0 ≤ zw ((zw (4 * v2)) + v3) ∧ zw ((zw (4 * v2)) + v3) < 16) ∧ Fr xs L T0 106 d 51 34 [some (rf 58), some (it v1), some (it v2), some (it (zw (v3 + 1))), some (it (zw ((s 60 (zw ((zw (4 * v2)) + v1))) + (s 60 (zw ((zw (4 * v1)) + v3))))))] [] (zup s1 60 (zw ((zw (4 * v2)) + v3)) r2) (qv P))))) : Fr xs L T0 106 d 51 34 [some (rf 58), some (it v1), some (it v2), some (it v3), w4] [] s (qv P) := by
  refine Fr.ildn (by decide +kernel : zi 51 34 = some (.iload_n 3, 1)) rfl ?_
  refine Fr.iconst (by decide +kernel : zi 51 35 = some (.iconst 4, 1)) (by decide) ?_
  refine Fr.if2 (q := 93) (by decide +kernel : zi 51 36 = some (.if_icmp .ge 57, 3)) (by decide +kernel) (fun g9 => ?_) (fun g9 => ?_)
  · have h := h.1 g9
    refine Fr.iinc (lv2 := [some (rf 58), some (it v1), some (it (zw (v2 + 1))), some (it v3), w4]) (by decide +kernel : zi 51 93 = some (.iinc 2 1, 3)) (Nat.le_of_ble_eq_true rfl) rfl rfl ?_
    refine Fr.goto (q := 27) (by decide +kernel : zi 51 96 = some (.goto (-69), 3)) (by decide +kernel) ?_
    exact h
  · have h := h.2 g9
    refine Fr.aldn (c := 58) (by decide +kernel : zi 51 39 = some (.aload_n 0, 1)) rfl ⟨by omega, by omega⟩ ?_
    refine Fr.gR (c := 57) (c2 := 61) (ci := 3) (k := 4) 4 (by decide +kernel : zi 51 40 = some (.getfield 18, 3)) (by decide +kernel) (by decide +kernel) (by decide +kernel) (by decide) rfl (fun q => q (57, 4, 61) (by decide +kernel)) ?_
    refine Fr.iconst (by decide +kernel : zi 51 43 = some (.iconst 4, 1)) (by decide) ?_
    refine Fr.ildn (by decide +kernel : zi 51 44 = some (.iload_n 2, 1)) rfl ?_
    refine Fr.imul (by decide +kernel : zi 51 45 = some (.imul, 1)) ?_
    refine Fr.ildn (by decide +kernel : zi 51 46 = some (.iload_n 1, 1)) rfl ?_
    refine Fr.iadd (by decide +kernel : zi 51 47 = some (.iadd, 1)) ?_
    obtain ⟨⟨g0, g1⟩, h⟩ := h
    refine Fr.iald (c := 60) (N := 16) (by decide +kernel : zi 51 48 = some (.iaload, 1)) (by decide +kernel) (by decide) g0 g1 ?_
    refine Fr.aldn (c := 58) (by decide +kernel : zi 51 49 = some (.aload_n 0, 1)) rfl ⟨by omega, by omega⟩ ?_
    refine Fr.gR (c := 57) (c2 := 61) (ci := 3) (k := 4) 4 (by decide +kernel : zi 51 50 = some (.getfield 18, 3)) (by decide +kernel) (by decide +kernel) (by decide +kernel) (by decide) rfl (fun q => q (57, 4, 61) (by decide +kernel)) ?_
    refine Fr.iconst (by decide +kernel : zi 51 53 = some (.iconst 4, 1)) (by decide) ?_
    refine Fr.ildn (by decide +kernel : zi 51 54 = some (.iload_n 1, 1)) rfl ?_
    refine Fr.imul (by decide +kernel : zi 51 55 = some (.imul, 1)) ?_
    refine Fr.ildn (by decide +kernel : zi 51 56 = some (.iload_n 3, 1)) rfl ?_
    refine Fr.iadd (by decide +kernel : zi 51 57 = some (.iadd, 1)) ?_
    obtain ⟨⟨g0, g1⟩, h⟩ := h
    refine Fr.iald (c := 60) (N := 16) (by decide +kernel : zi 51 58 = some (.iaload, 1)) (by decide +kernel) (by decide) g0 g1 ?_
    refine Fr.iadd (by decide +kernel : zi 51 59 = some (.iadd, 1)) ?_
    refine Fr.ist (lv2 := [some (rf 58), some (it v1), some (it v2), some (it v3), some (it (zw ((s 60 (zw ((zw (4 * v2)) + v1))) + (s 60 (zw ((zw (4 * v1)) + v3))))))]) (by decide +kernel : zi 51 60 = some (.istore 4, 2)) (Nat.le_of_ble_eq_true rfl) rfl ?_
    refine Fr.aldn (c := 58) (by decide +kernel : zi 51 62 = some (.aload_n 0, 1)) rfl ⟨by omega, by omega⟩ ?_
    refine Fr.gR (c := 57) (c2 := 61) (ci := 3) (k := 4) 4 (by decide +kernel : zi 51 63 = some (.getfield 18, 3)) (by decide +kernel) (by decide +kernel) (by decide +kernel) (by decide) rfl (fun q => q (57, 4, 61) (by decide +kernel)) ?_
    refine Fr.iconst (by decide +kernel : zi 51 66 = some (.iconst 4, 1)) (by decide) ?_
    refine Fr.ildn (by decide +kernel : zi 51 67 = some (.iload_n 2, 1)) rfl ?_
    refine Fr.imul (by decide +kernel : zi 51 68 = some (.imul, 1)) ?_
    refine Fr.ildn (by decide +kernel : zi 51 69 = some (.iload_n 3, 1)) rfl ?_
    refine Fr.iadd (by decide +kernel : zi 51 70 = some (.iadd, 1)) ?_
    refine Fr.aldn (c := 58) (by decide +kernel : zi 51 71 = some (.aload_n 0, 1)) rfl ⟨by omega, by omega⟩ ?_
    refine Fr.gR (c := 57) (c2 := 61) (ci := 3) (k := 4) 4 (by decide +kernel : zi 51 72 = some (.getfield 18, 3)) (by decide +kernel) (by decide +kernel) (by decide +kernel) (by decide) rfl (fun q => q (57, 4, 61) (by decide +kernel)) ?_
    refine Fr.iconst (by decide +kernel : zi 51 75 = some (.iconst 4, 1)) (by decide) ?_
    refine Fr.ildn (by decide +kernel : zi 51 76 = some (.iload_n 2, 1)) rfl ?_
    refine Fr.imul (by decide +kernel : zi 51 77 = some (.imul, 1)) ?_
    refine Fr.ildn (by decide +kernel : zi 51 78 = some (.iload_n 3, 1)) rfl ?_
    refine Fr.iadd (by decide +kernel : zi 51 79 = some (.iadd, 1)) ?_
    obtain ⟨⟨g0, g1⟩, h⟩ := h
    refine Fr.iald (c := 60) (N := 16) (by decide +kernel : zi 51 80 = some (.iaload, 1)) (by decide +kernel) (by decide) g0 g1 ?_
    refine Fr.ild (by decide +kernel : zi 51 81 = some (.iload 4, 2)) rfl ?_
    refine Fr.callI (y2 := 231) (na := 2) (as := [it (s 60 (zw ((zw (4 * v2)) + v3))), it (zw ((s 60 (zw ((zw (4 * v2)) + v1))) + (s 60 (zw ((zw (4 * v1)) + v3)))))]) (rest := [it (zw ((zw (4 * v2)) + v3)), rf 61]) (by decide +kernel : zi 51 83 = some (.invokestatic 91, 3)) rfl (by decide +kernel) (by decide +kernel) rfl rfl (zok_S rfl (by decide) (by decide +kernel) rfl (Nat.le_of_ble_eq_true rfl)) h (fun r2 s1 h => ?_)
    obtain ⟨⟨g0, g1⟩, h⟩ := h
    refine Fr.iast (c := 60) (N := 16) (by decide +kernel : zi 51 86 = some (.iastore, 1)) (by decide +kernel) (by decide) g0 g1 ?_
    refine Fr.iinc (lv2 := [some (rf 58), some (it v1), some (it v2), some (it (zw (v3 + 1))), some (it (zw ((s 60 (zw ((zw (4 * v2)) + v1))) + (s 60 (zw ((zw (4 * v1)) + v3))))))]) (by decide +kernel : zi 51 87 = some (.iinc 3 1, 3)) (Nat.le_of_ble_eq_true rfl) rfl rfl ?_
    refine Fr.goto (q := 34) (by decide +kernel : zi 51 90 = some (.goto (-56), 3)) (by decide +kernel) ?_
    exact h
-- 52 X3_farthest
theorem f52_0 {xs : Nat → Int} {L : Nat} {d : Nat}  {s : Pl} {P : Int → Pl → Prop} (h : Ev xs L T0 106 d 51 [rf 58] s (qv fun s1 => Fr xs L T0 106 d 52 8 [some (rf 58), some (it 0), some (it 0), none, none] [] s1 (qi P))) : Fr xs L T0 106 d 52 0 [some (rf 58), none, none, none, none] [] s (qi P) := by
  refine Fr.aldn (c := 58) (by decide +kernel : zi 52 0 = some (.aload_n 0, 1)) rfl ⟨by omega, by omega⟩ ?_
  refine Fr.callV (y2 := 51) (na := 1) (as := [rf 58]) (rest := []) (by decide +kernel : zi 52 1 = some (.invokevirtual 153, 3)) rfl (by decide +kernel) (by decide +kernel) rfl rfl (zok_V rfl (by decide) (by decide +kernel) (by decide +kernel) (zrecv_c (c := 57) (by decide) (by decide +kernel)) rfl (Nat.le_of_ble_eq_true rfl)) h (fun s1 h => ?_)
  refine Fr.iconst (by decide +kernel : zi 52 4 = some (.iconst 0, 1)) (by decide) ?_
  refine Fr.istn (lv2 := [some (rf 58), some (it 0), none, none, none]) (by decide +kernel : zi 52 5 = some (.istore_n 1, 1)) (Nat.le_of_ble_eq_true rfl) rfl ?_
  refine Fr.iconst (by decide +kernel : zi 52 6 = some (.iconst 0, 1)) (by decide) ?_
  refine Fr.istn (lv2 := [some (rf 58), some (it 0), some (it 0), none, none]) (by decide +kernel : zi 52 7 = some (.istore_n 2, 1)) (Nat.le_of_ble_eq_true rfl) rfl ?_
  exact h
theorem e52 {xs : Nat → Int} {L : Nat} {d : Nat}  {s : Pl} {Q : Option AV → Pl → Prop} (hd : 1 ≤ d) (k : Fr xs L T0 106 (d - 1) 52 0 [some (rf 58), none, none, none, none] [] s Q) : Ev xs L T0 106 d 52 [rf 58] s Q := Ev.of (by decide) _ rfl hd k
theorem f52_8 {xs : Nat → Int} {L : Nat} {d : Nat} {v1 : Int} {v2 : Int} {w3 : Option AV} {w4 : Option AV} {s : Pl} {P : Int → Pl → Prop} (h : ((s 1 1 ≤ v2 → P v1 s) ∧ (¬ (s 1 1 ≤ v2) → ((6 ≤ v2 → P v1 s) ∧ (¬ (6 ≤ v2) → (0 ≤ v2 ∧ v2 < 6) ∧ ((¬ s 2 v2 = 4 → (0 ≤ v2 ∧ v2 < 6) ∧ Fr xs L T0 106 d 52 57 [some (rf 58), some (it v1), some (it v2), w3, w4] [it (s 2 v2)] s (qi P)) ∧ (¬ (¬ s 2 v2 = 4) → Fr xs L T0 106 d 52 57 [some (rf 58), some (it v1), some (it v2), w3, w4] [it (s 1 0)] s (qi P)))))))) : Fr xs L T0 106 d 52 8 [some (rf 58), some (it v1), some (it v2), w3, w4] [] s (qi P) := by
  refine Fr.ildn (by decide +kernel : zi 52 8 = some (.iload_n 2, 1)) rfl ?_
  refine Fr.aldn (c := 58) (by decide +kernel : zi 52 9 = some (.aload_n 0, 1)) rfl ⟨by omega, by omega⟩ ?_
  refine Fr.gR (c := 57) (c2 := 2) (ci := 3) (k := 0) 0 (by decide +kernel : zi 52 10 = some (.getfield 30, 3)) (by decide +kernel) (by decide +kernel) (by decide +kernel) (by decide) rfl (fun q => q (57, 0, 2) (by decide +kernel)) ?_
  refine Fr.gI (c := 1) (ci := 0) (k := 1) (t := 0) 1 (by decide +kernel : zi 52 13 = some (.getfield 64, 3)) (by decide +kernel) (by decide +kernel) (by decide +kernel) (by decide) rfl ?_
  refine Fr.if2 (q := 140) (by decide +kernel : zi 52 16 = some (.if_icmp .ge 124, 3)) (by decide +kernel) (fun g9 => ?_) (fun g9 => ?_)
  · have h := h.1 g9
    refine Fr.ildn (by decide +kernel : zi 52 140 = some (.iload_n 1, 1)) rfl ?_
    exact Fr.retI (by decide +kernel : zi 52 141 = some (.ireturn, 1)) (by decide +kernel) h
  · have h := h.2 g9
    refine Fr.ildn (by decide +kernel : zi 52 19 = some (.iload_n 2, 1)) rfl ?_
    refine Fr.bipush (by decide +kernel : zi 52 20 = some (.bipush 6, 2)) (by decide) ?_
    refine Fr.if2 (q := 140) (by decide +kernel : zi 52 22 = some (.if_icmp .ge 118, 3)) (by decide +kernel) (fun g9 => ?_) (fun g9 => ?_)
    · have h := h.1 g9
      refine Fr.ildn (by decide +kernel : zi 52 140 = some (.iload_n 1, 1)) rfl ?_
      exact Fr.retI (by decide +kernel : zi 52 141 = some (.ireturn, 1)) (by decide +kernel) h
    · have h := h.2 g9
      refine Fr.aldn (c := 58) (by decide +kernel : zi 52 25 = some (.aload_n 0, 1)) rfl ⟨by omega, by omega⟩ ?_
      refine Fr.gR (c := 57) (c2 := 2) (ci := 3) (k := 0) 0 (by decide +kernel : zi 52 26 = some (.getfield 30, 3)) (by decide +kernel) (by decide +kernel) (by decide +kernel) (by decide) rfl (fun q => q (57, 0, 2) (by decide +kernel)) ?_
      refine Fr.gR (c := 1) (c2 := 3) (ci := 0) (k := 3) 3 (by decide +kernel : zi 52 29 = some (.getfield 156, 3)) (by decide +kernel) (by decide +kernel) (by decide +kernel) (by decide) rfl (fun q => q (1, 3, 3) (by decide +kernel)) ?_
      refine Fr.ildn (by decide +kernel : zi 52 32 = some (.iload_n 2, 1)) rfl ?_
      obtain ⟨⟨g0, g1⟩, h⟩ := h
      refine Fr.iald (c := 2) (N := 6) (by decide +kernel : zi 52 33 = some (.iaload, 1)) (by decide +kernel) (by decide) g0 g1 ?_
      refine Fr.iconst (by decide +kernel : zi 52 34 = some (.iconst 4, 1)) (by decide) ?_
      refine Fr.if2 (q := 48) (by decide +kernel : zi 52 35 = some (.if_icmp .ne 13, 3)) (by decide +kernel) (fun g9 => ?_) (fun g9 => ?_)
      · have h := h.1 g9
        refine Fr.aldn (c := 58) (by decide +kernel : zi 52 48 = some (.aload_n 0, 1)) rfl ⟨by omega, by omega⟩ ?_
        refine Fr.gR (c := 57) (c2 := 2) (ci := 3) (k := 0) 0 (by decide +kernel : zi 52 49 = some (.getfield 30, 3)) (by decide +kernel) (by decide +kernel) (by decide +kernel) (by decide) rfl (fun q => q (57, 0, 2) (by decide +kernel)) ?_
        refine Fr.gR (c := 1) (c2 := 3) (ci := 0) (k := 3) 3 (by decide +kernel : zi 52 52 = some (.getfield 156, 3)) (by decide +kernel) (by decide +kernel) (by decide +kernel) (by decide) rfl (fun q => q (1, 3, 3) (by decide +kernel)) ?_
        refine Fr.ildn (by decide +kernel : zi 52 55 = some (.iload_n 2, 1)) rfl ?_
        obtain ⟨⟨g0, g1⟩, h⟩ := h
        refine Fr.iald (c := 2) (N := 6) (by decide +kernel : zi 52 56 = some (.iaload, 1)) (by decide +kernel) (by decide) g0 g1 ?_
        exact h
      · have h := h.2 g9
        refine Fr.aldn (c := 58) (by decide +kernel : zi 52 38 = some (.aload_n 0, 1)) rfl ⟨by omega, by omega⟩ ?_
        refine Fr.gR (c := 57) (c2 := 2) (ci := 3) (k := 0) 0 (by decide +kernel : zi 52 39 = some (.getfield 30, 3)) (by decide +kernel) (by decide +kernel) (by decide +kernel) (by decide) rfl (fun q => q (57, 0, 2) (by decide +kernel)) ?_
        refine Fr.gI (c := 1) (ci := 0) (k := 0) (t := 0) 0 (by decide +kernel : zi 52 42 = some (.getfield 159, 3)) (by decide +kernel) (by decide +kernel) (by decide +kernel) (by decide) rfl ?_
        refine Fr.goto (q := 57) (by decide +kernel : zi 52 45 = some (.goto 12, 3)) (by decide +kernel) ?_
        exact h
theorem f52_57 {xs : Nat → Int} {L : Nat} {d : Nat} {v1 : Int} {v2 : Int} {w3 : Option AV} {w4 : Option AV} {vs0 : Int} {s : Pl} {P : Int → Pl → Prop} (h : ((¬ zand (zshr (s 57 8) v2) 1 = 0 → Fr xs L T0 106 d 52 90 [some (rf 58), some (it v1), some (it v2), some (it vs0), w4] [] s (qi P)) ∧ (¬ (¬ zand (zshr (s 57 8) v2) 1 = 0) → (0 ≤ v2 ∧ v2 < 6) ∧ (0 ≤ v2 ∧ v2 < 6) ∧ ((¬ s 2 v2 = s 4 v2 → Fr xs L T0 106 d 52 95 [some (rf 58), some (it v1), some (it v2), some (it vs0), w4] [it 0] s (qi P)) ∧ (¬ (¬ s 2 v2 = s 4 v2) → Fr xs L T0 106 d 52 90 [some (rf 58), some (it v1), some (it v2), some (it vs0), w4] [] s (qi P)))))) : Fr xs L T0 106 d 52 57 [some (rf 58), some (it v1), some (it v2), w3, w4] [it vs0] s (qi P) := by
  refine Fr.istn (lv2 := [some (rf 58), some (it v1), some (it v2), some (it vs0), w4]) (by decide +kernel : zi 52 57 = some (.istore_n 3, 1)) (Nat.le_of_ble_eq_true rfl) rfl ?_
  refine Fr.aldn (c := 58) (by decide +kernel : zi 52 58 = some (.aload_n 0, 1)) rfl ⟨by omega, by omega⟩ ?_
  refine Fr.gI (c := 57) (ci := 3) (k := 8) (t := 0) 8 (by decide +kernel : zi 52 59 = some (.getfield 51, 3)) (by decide +kernel) (by decide +kernel) (by decide +kernel) (by decide) rfl ?_
  refine Fr.ildn (by decide +kernel : zi 52 62 = some (.iload_n 2, 1)) rfl ?_
  refine Fr.ishr (by decide +kernel : zi 52 63 = some (.ishr, 1)) ?_
  refine Fr.iconst (by decide +kernel : zi 52 64 = some (.iconst 1, 1)) (by decide) ?_
  refine Fr.iand (by decide +kernel : zi 52 65 = some (.iand, 1)) ?_
  refine Fr.if0 (q := 90) (by decide +kernel : zi 52 66 = some (.ifCond .ne 24, 3)) (by decide +kernel) (fun g9 => ?_) (fun g9 => ?_)
  · have h := h.1 g9
    exact h
  · have h := h.2 g9
    refine Fr.aldn (c := 58) (by decide +kernel : zi 52 69 = some (.aload_n 0, 1)) rfl ⟨by omega, by omega⟩ ?_
    refine Fr.gR (c := 57) (c2 := 2) (ci := 3) (k := 0) 0 (by decide +kernel : zi 52 70 = some (.getfield 30, 3)) (by decide +kernel) (by decide +kernel) (by decide +kernel) (by decide) rfl (fun q => q (57, 0, 2) (by decide +kernel)) ?_
    refine Fr.gR (c := 1) (c2 := 3) (ci := 0) (k := 3) 3 (by decide +kernel : zi 52 73 = some (.getfield 156, 3)) (by decide +kernel) (by decide +kernel) (by decide +kernel) (by decide) rfl (fun q => q (1, 3, 3) (by decide +kernel)) ?_
    refine Fr.ildn (by decide +kernel : zi 52 76 = some (.iload_n 2, 1)) rfl ?_
    obtain ⟨⟨g0, g1⟩, h⟩ := h
    refine Fr.iald (c := 2) (N := 6) (by decide +kernel : zi 52 77 = some (.iaload, 1)) (by decide +kernel) (by decide) g0 g1 ?_
    refine Fr.aldn (c := 58) (by decide +kernel : zi 52 78 = some (.aload_n 0, 1)) rfl ⟨by omega, by omega⟩ ?_
    refine Fr.gR (c := 57) (c2 := 2) (ci := 3) (k := 0) 0 (by decide +kernel : zi 52 79 = some (.getfield 30, 3)) (by decide +kernel) (by decide +kernel) (by decide +kernel) (by decide) rfl (fun q => q (57, 0, 2) (by decide +kernel)) ?_
    refine Fr.gR (c := 1) (c2 := 5) (ci := 0) (k := 5) 5 (by decide +kernel : zi 52 82 = some (.getfield 102, 3)) (by decide +kernel) (by decide +kernel) (by decide +kernel) (by decide) rfl (fun q => q (1, 5, 5) (by decide +kernel)) ?_
    refine Fr.ildn (by decide +kernel : zi 52 85 = some (.iload_n 2, 1)) rfl ?_
    obtain ⟨⟨g0, g1⟩, h⟩ := h
    refine Fr.iald (c := 4) (N := 6) (by decide +kernel : zi 52 86 = some (.iaload, 1)) (by decide +kernel) (by decide) g0 g1 ?_
    refine Fr.if2 (q := 94) (by decide +kernel : zi 52 87 = some (.if_icmp .ne 7, 3)) (by decide +kernel) (fun g9 => ?_) (fun g9 => ?_)
    · have h := h.1 g9
      refine Fr.iconst (by decide +kernel : zi 52 94 = some (.iconst 0, 1)) (by decide) ?_
      exact h
    · have h := h.2 g9
      exact h
theorem f52_90 {xs : Nat → Int} {L : Nat} {d : Nat} {v1 : Int} {v2 : Int} {v3 : Int} {w4 : Option AV} {s : Pl} {P : Int → Pl → Prop} (h : Fr xs L T0 106 d 52 95 [some (rf 58), some (it v1), some (it v2), some (it v3), w4] [it 1] s (qi P)) : Fr xs L T0 106 d 52 90 [some (rf 58), some (it v1), some (it v2), some (it v3), w4] [] s (qi P) := by
  refine Fr.iconst (by decide +kernel : zi 52 90 = some (.iconst 1, 1)) (by decide) ?_
  refine Fr.goto (q := 95) (by decide +kernel : zi 52 91 = some (.goto 4, 3)) (by decide +kernel) ?_
  exact h
theorem f52_95 {xs : Nat → Int} {L : Nat} {d : Nat} {v1 : Int} {v2 : Int} {v3 : Int} {w4 : Option AV} {vs0 : Int} {s : Pl} {P : Int → Pl → Prop} (h : ((¬ vs0 = 0 → Fr xs L T0 106 d 52 134 [some (rf 58), some (it v1), some (it v2), some (it v3), some (it vs0)] [] s (qi P)) ∧ (¬ (¬ vs0 = 0) → Ev xs L T0 106 d 245 [rf 58, it (s 1 0), it v3] s (qi fun r2 s1 => (0 ≤ v2 ∧ v2 < 6) ∧ Ev xs L T0 106 d 245 [rf 58, it v3, it (s1 4 v2)] s1 (qi fun r4 s3 => Ev xs L T0 106 d 230 [it v1, it (zw (r2 + r4))] s3 (qi fun r6 s5 => Fr xs L T0 106 d 52 134 [some (rf 58), some (it r6), some (it v2), some (it v3), some (it vs0)] [] s5 (qi P))))))) : Fr xs L T0 106 d 52 95 [some (rf 58), some (it v1), some (it v2), some (it v3), w4] [it vs0] s (qi P) := by
  refine Fr.ist (lv2 := [some (rf 58), some (it v1), some (it v2), some (it v3), some (it vs0)]) (by decide +kernel : zi 52 95 = some (.istore 4, 2)) (Nat.le_of_ble_eq_true rfl) rfl ?_
  refine Fr.ild (by decide +kernel : zi 52 97 = some (.iload 4, 2)) rfl ?_
  refine Fr.if0 (q := 134) (by decide +kernel : zi 52 99 = some (.ifCond .ne 35, 3)) (by decide +kernel) (fun g9 => ?_) (fun g9 => ?_)
  · have h := h.1 g9
    exact h
  · have h := h.2 g9
    refine Fr.ildn (by decide +kernel : zi 52 102 = some (.iload_n 1, 1)) rfl ?_
    refine Fr.aldn (c := 58) (by decide +kernel : zi 52 103 = some (.aload_n 0, 1)) rfl ⟨by omega, by omega⟩ ?_
    refine Fr.aldn (c := 58) (by decide +kernel : zi 52 104 = some (.aload_n 0, 1)) rfl ⟨by omega, by omega⟩ ?_
    refine Fr.gR (c := 57) (c2 := 2) (ci := 3) (k := 0) 0 (by decide +kernel : zi 52 105 = some (.getfield 30, 3)) (by decide +kernel) (by decide +kernel) (by decide +kernel) (by decide) rfl (fun q => q (57, 0, 2) (by decide +kernel)) ?_
    refine Fr.gI (c := 1) (ci := 0) (k := 0) (t := 0) 0 (by decide +kernel : zi 52 108 = some (.getfield 159, 3)) (by decide +kernel) (by decide +kernel) (by decide +kernel) (by decide) rfl ?_
    refine Fr.ildn (by decide +kernel : zi 52 111 = some (.iload_n 3, 1)) rfl ?_
    refine Fr.callI (y2 := 245) (na := 3) (as := [rf 58, it (s 1 0), it v3]) (rest := [it v1]) (by decide +kernel : zi 52 112 = some (.invokevirtual 160, 3)) rfl (by decide +kernel) (by decide +kernel) rfl rfl (zok_V rfl (by decide) (by decide +kernel) (by decide +kernel) (zrecv_c (c := 57) (by decide) (by decide +kernel)) rfl (Nat.le_of_ble_eq_true rfl)) h (fun r2 s1 h => ?_)
    refine Fr.aldn (c := 58) (by decide +kernel : zi 52 115 = some (.aload_n 0, 1)) rfl ⟨by omega, by omega⟩ ?_
    refine Fr.ildn (by decide +kernel : zi 52 116 = some (.iload_n 3, 1)) rfl ?_
    refine Fr.aldn (c := 58) (by decide +kernel : zi 52 117 = some (.aload_n 0, 1)) rfl ⟨by omega, by omega⟩ ?_
    refine Fr.gR (c := 57) (c2 := 2) (ci := 3) (k := 0) 0 (by decide +kernel : zi 52 118 = some (.getfield 30, 3)) (by decide +kernel) (by decide +kernel) (by decide +kernel) (by decide) rfl (fun q => q (57, 0, 2) (by decide +kernel)) ?_
    refine Fr.gR (c := 1) (c2 := 5) (ci := 0) (k := 5) 5 (by decide +kernel : zi 52 121 = some (.getfield 102, 3)) (by decide +kernel) (by decide +kernel) (by decide +kernel) (by decide) rfl (fun q => q (1, 5, 5) (by decide +kernel)) ?_
    refine Fr.ildn (by decide +kernel : zi 52 124 = some (.iload_n 2, 1)) rfl ?_
    obtain ⟨⟨g0, g1⟩, h⟩ := h
    refine Fr.iald (c := 4) (N := 6) (by decide +kernel : zi 52 125 = some (.iaload, 1)) (by decide +kernel) (by decide) g0 g1 ?_
    refine Fr.callI (y2 := 245) (na := 3) (as := [rf 58, it v3, it (s1 4 v2)]) (rest := [it r2, it v1]) (by decide +kernel : zi 52 126 = some (.invokevirtual 160, 3)) rfl (by decide +kernel) (by decide +kernel) rfl rfl (zok_V rfl (by decide) (by decide +kernel) (by decide +kernel) (zrecv_c (c := 57) (by decide) (by decide +kernel)) rfl (Nat.le_of_ble_eq_true rfl)) h (fun r4 s3 h => ?_)
    refine Fr.iadd (by decide +kernel : zi 52 129 = some (.iadd, 1)) ?_
    refine Fr.callI (y2 := 230) (na := 2) (as := [it v1, it (zw (r2 + r4))]) (rest := []) (by decide +kernel : zi 52 130 = some (.invokestatic 96, 3)) rfl (by decide +kernel) (by decide +kernel) rfl rfl (zok_S rfl (by decide) (by decide +kernel) rfl (Nat.le_of_ble_eq_true rfl)) h (fun r6 s5 h => ?_)
    refine Fr.istn (lv2 := [some (rf 58), some (it r6), some (it v2), some (it v3), some (it vs0)]) (by decide +kernel : zi 52 133 = some (.istore_n 1, 1)) (Nat.le_of_ble_eq_true rfl) rfl ?_
    exact h
theorem f52_134 {xs : Nat → Int} {L : Nat} {d : Nat} {v1 : Int} {v2 : Int} {v3 : Int} {v4 : Int} {s : Pl} {P : Int → Pl → Prop} (h : Fr xs L T0 106 d 52 8 [some (rf 58), some (it v1), some (it (zw (v2 + 1))), some (it v3), some (it v4)] [] s (qi P)) : Fr xs L T0 106 d 52 134 [some (rf 58), some (it v1), some (it v2), some (it v3), some (it v4)] [] s (qi P) := by
  refine Fr.iinc (lv2 := [some (rf 58), some (it v1), some (it (zw (v2 + 1))), some (it v3), some (it v4)]) (by decide +kernel : zi 52 134 = some (.iinc 2 1, 3)) (Nat.le_of_ble_eq_true rfl) rfl rfl ?_
  refine Fr.goto (q := 8) (by decide +kernel : zi 52 137 = some (.goto (-129), 3)) (by decide +kernel) ?_
  exact h
-- 245 X3_pathOf
theorem f245_0 {xs : Nat → Int} {L : Nat} {d : Nat} {v1 : Int} {v2 : Int} {s : Pl} {P : Int → Pl → Prop} (h : Ev xs L T0 106 d 126 [it v1] s (qi fun r2 s1 => ((r2 = 0 → P 0 s1) ∧ (¬ (r2 = 0) → Ev xs L T0 106 d 126 [it v2] s1 (qi fun r4 s3 => ((r4 = 0 → P 0 s3) ∧ (¬ (r4 = 0) → (0 ≤ zw ((zw (4 * v1)) + v2) ∧ zw ((zw (4 * v1)) + v2) < 16) ∧ P (s3 60 (zw ((zw (4 * v1)) + v2))) s3))))))) : Fr xs L T0 106 d 245 0 [some (rf 58), some (it v1), some (it v2)] [] s (qi P) := by
  refine Fr.ildn (by decide +kernel : zi 245 0 = some (.iload_n 1, 1)) rfl ?_
  refine Fr.callI (y2 := 126) (na := 1) (as := [it v1]) (rest := []) (by decide +kernel : zi 245 1 = some (.invokestatic 84, 3)) rfl (by decide +kernel) (by decide +kernel) rfl rfl (zok_S rfl (by decide) (by decide +kernel) rfl (Nat.le_of_ble_eq_true rfl)) h (fun r2 s1 h => ?_)
  refine Fr.if0 (q := 27) (by decide +kernel : zi 245 4 = some (.ifCond .eq 23, 3)) (by decide +kernel) (fun g9 => ?_) (fun g9 => ?_)
  · have h := h.1 g9
    refine Fr.iconst (by decide +kernel : zi 245 27 = some (.iconst 0, 1)) (by decide) ?_
    exact Fr.retI (by decide +kernel : zi 245 28 = some (.ireturn, 1)) (by decide +kernel) h
  · have h := h.2 g9
    refine Fr.ildn (by decide +kernel : zi 245 7 = some (.iload_n 2, 1)) rfl ?_
    refine Fr.callI (y2 := 126) (na := 1) (as := [it v2]) (rest := []) (by decide +kernel : zi 245 8 = some (.invokestatic 84, 3)) rfl (by decide +kernel) (by decide +kernel) rfl rfl (zok_S rfl (by decide) (by decide +kernel) rfl (Nat.le_of_ble_eq_true rfl)) h (fun r4 s3 h => ?_)
    refine Fr.if0 (q := 27) (by decide +kernel : zi 245 11 = some (.ifCond .eq 16, 3)) (by decide +kernel) (fun g9 => ?_) (fun g9 => ?_)
    · have h := h.1 g9
      refine Fr.iconst (by decide +kernel : zi 245 27 = some (.iconst 0, 1)) (by decide) ?_
      exact Fr.retI (by decide +kernel : zi 245 28 = some (.ireturn, 1)) (by decide +kernel) h
    · have h := h.2 g9
      refine Fr.aldn (c := 58) (by decide +kernel : zi 245 14 = some (.aload_n 0, 1)) rfl ⟨by omega, by omega⟩ ?_
      refine Fr.gR (c := 57) (c2 := 61) (ci := 3) (k := 4) 4 (by decide +kernel : zi 245 15 = some (.getfield 18, 3)) (by decide +kernel) (by decide +kernel) (by decide +kernel) (by decide) rfl (fun q => q (57, 4, 61) (by decide +kernel)) ?_
      refine Fr.iconst (by decide +kernel : zi 245 18 = some (.iconst 4, 1)) (by decide) ?_
      refine Fr.ildn (by decide +kernel : zi 245 19 = some (.iload_n 1, 1)) rfl ?_
      refine Fr.imul (by decide +kernel : zi 245 20 = some (.imul, 1)) ?_
      refine Fr.ildn (by decide +kernel : zi 245 21 = some (.iload_n 2, 1)) rfl ?_
      refine Fr.iadd (by decide +kernel : zi 245 22 = some (.iadd, 1)) ?_
      obtain ⟨⟨g0, g1⟩, h⟩ := h
      refine Fr.iald (c := 60) (N := 16) (by decide +kernel : zi 245 23 = some (.iaload, 1)) (by decide +kernel) (by decide) g0 g1 ?_
      refine Fr.goto (q := 28) (by decide +kernel : zi 245 24 = some (.goto 4, 3)) (by decide +kernel) ?_
      exact Fr.retI (by decide +kernel : zi 245 28 = some (.ireturn, 1)) (by decide +kernel) h
theorem e245 {xs : Nat → Int} {L : Nat} {d : Nat} {v1 : Int} {v2 : Int} {s : Pl} {Q : Option AV → Pl → Prop} (hd : 1 ≤ d) (k : Fr xs L T0 106 (d - 1) 245 0 [some (rf 58), some (it v1), some (it v2)] [] s Q) : Ev xs L T0 106 d 245 [rf 58, it v1, it v2] s Q := Ev.of (by decide) _ rfl hd k
