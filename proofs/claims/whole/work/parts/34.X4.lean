-- 54 X4_reach
theorem f54_0 {xs : Nat → Int} {L : Nat} {d : Nat} {v1 : Int} {v2 : Int} {v3 : Int} {v4 : Int} {s : Pl} {P : Int → Pl → Prop} (h : Ev xs L T0 104 d 238 [rf 64, it 0] s (qv fun s1 => ((¬ v2 = 0 → Fr xs L T0 104 d 54 36 [some (rf 63), some (it v1), some (it v2), some (it v3), some (it v4), some (it 0), none, none, none] [it 1] (zup (zup s1 62 4 0) 62 5 0) (qi P)) ∧ (¬ (¬ v2 = 0) → Ev xs L T0 104 d 50 [rf 56] (zup (zup s1 62 4 0) 62 5 0) (qi fun r3 s2 => Fr xs L T0 104 d 54 36 [some (rf 63), some (it v1), some (it v2), some (it v3), some (it v4), some (it 0), none, none, none] [it r3] s2 (qi P)))))) : Fr xs L T0 104 d 54 0 [some (rf 63), some (it v1), some (it v2), some (it v3), some (it v4), none, none, none, none] [] s (qi P) := by
  refine Fr.aldn (c := 63) (by decide +kernel : zi 54 0 = some (.aload_n 0, 1)) rfl ⟨by omega, by omega⟩ ?_
  refine Fr.gR (c := 62) (c2 := 64) (ci := 4) (k := 1) 1 (by decide +kernel : zi 54 1 = some (.getfield 11, 3)) (by decide +kernel) (by decide +kernel) (by decide +kernel) (by decide) rfl (fun q => q (62, 1, 64) (by decide +kernel)) ?_
  refine Fr.iconst (by decide +kernel : zi 54 4 = some (.iconst 0, 1)) (by decide) ?_
  refine Fr.callV (y2 := 238) (na := 2) (as := [rf 64, it 0]) (rest := []) (by decide +kernel : zi 54 5 = some (.invokestatic 25, 3)) rfl (by decide +kernel) (by decide +kernel) rfl rfl (zok_S rfl (by decide) (by decide +kernel) rfl (Nat.le_of_ble_eq_true rfl)) h (fun s1 h => ?_)
  refine Fr.aldn (c := 63) (by decide +kernel : zi 54 8 = some (.aload_n 0, 1)) rfl ⟨by omega, by omega⟩ ?_
  refine Fr.iconst (by decide +kernel : zi 54 9 = some (.iconst 0, 1)) (by decide) ?_
  refine Fr.pI (c := 62) (ci := 4) (k := 4) 4 (by decide +kernel : zi 54 10 = some (.putfield 31, 3)) (by decide +kernel) (by decide +kernel) (by decide +kernel) (by decide) rfl ?_
  refine Fr.aldn (c := 63) (by decide +kernel : zi 54 13 = some (.aload_n 0, 1)) rfl ⟨by omega, by omega⟩ ?_
  refine Fr.iconst (by decide +kernel : zi 54 14 = some (.iconst 0, 1)) (by decide) ?_
  refine Fr.pI (c := 62) (ci := 4) (k := 5) 5 (by decide +kernel : zi 54 15 = some (.putfield 35, 3)) (by decide +kernel) (by decide +kernel) (by decide +kernel) (by decide) rfl ?_
  refine Fr.iconst (by decide +kernel : zi 54 18 = some (.iconst 0, 1)) (by decide) ?_
  refine Fr.ist (lv2 := [some (rf 63), some (it v1), some (it v2), some (it v3), some (it v4), some (it 0), none, none, none]) (by decide +kernel : zi 54 19 = some (.istore 5, 2)) (Nat.le_of_ble_eq_true rfl) rfl ?_
  refine Fr.ildn (by decide +kernel : zi 54 21 = some (.iload_n 2, 1)) rfl ?_
  refine Fr.if0 (q := 35) (by decide +kernel : zi 54 22 = some (.ifCond .ne 13, 3)) (by decide +kernel) (fun g9 => ?_) (fun g9 => ?_)
  · have h := h.1 g9
    refine Fr.iconst (by decide +kernel : zi 54 35 = some (.iconst 1, 1)) (by decide) ?_
    exact h
  · have h := h.2 g9
    refine Fr.aldn (c := 63) (by decide +kernel : zi 54 25 = some (.aload_n 0, 1)) rfl ⟨by omega, by omega⟩ ?_
    refine Fr.gR (c := 62) (c2 := 56) (ci := 4) (k := 0) 0 (by decide +kernel : zi 54 26 = some (.getfield 21, 3)) (by decide +kernel) (by decide +kernel) (by decide +kernel) (by decide) rfl (fun q => q (62, 0, 56) (by decide +kernel)) ?_
    refine Fr.callI (y2 := 50) (na := 1) (as := [rf 56]) (rest := []) (by decide +kernel : zi 54 29 = some (.invokevirtual 38, 3)) rfl (by decide +kernel) (by decide +kernel) rfl rfl (zok_V rfl (by decide) (by decide +kernel) (by decide +kernel) (zrecv_c (c := 55) (by decide) (by decide +kernel)) rfl (Nat.le_of_ble_eq_true rfl)) h (fun r3 s2 h => ?_)
    refine Fr.goto (q := 36) (by decide +kernel : zi 54 32 = some (.goto 4, 3)) (by decide +kernel) ?_
    exact h
theorem e54 {xs : Nat → Int} {L : Nat} {d : Nat} {v1 : Int} {v2 : Int} {v3 : Int} {v4 : Int} {s : Pl} {Q : Option AV → Pl → Prop} (hd : 1 ≤ d) (k : Fr xs L T0 104 (d - 1) 54 0 [some (rf 63), some (it v1), some (it v2), some (it v3), some (it v4), none, none, none, none] [] s Q) : Ev xs L T0 104 d 54 [rf 63, it v1, it v2, it v3, it v4] s Q := Ev.of (by decide) _ rfl hd k
theorem f54_36 {xs : Nat → Int} {L : Nat} {d : Nat} {v1 : Int} {v2 : Int} {v3 : Int} {v4 : Int} {v5 : Int} {vs0 : Int} {s : Pl} {P : Int → Pl → Prop} (h : Fr xs L T0 104 d 54 41 [some (rf 63), some (it v1), some (it v2), some (it v3), some (it v4), some (it v5), some (it vs0), some (it 0), none] [] s (qi P)) : Fr xs L T0 104 d 54 36 [some (rf 63), some (it v1), some (it v2), some (it v3), some (it v4), some (it v5), none, none, none] [it vs0] s (qi P) := by
  refine Fr.ist (lv2 := [some (rf 63), some (it v1), some (it v2), some (it v3), some (it v4), some (it v5), some (it vs0), none, none]) (by decide +kernel : zi 54 36 = some (.istore 6, 2)) (Nat.le_of_ble_eq_true rfl) rfl ?_
  refine Fr.iconst (by decide +kernel : zi 54 38 = some (.iconst 0, 1)) (by decide) ?_
  refine Fr.ist (lv2 := [some (rf 63), some (it v1), some (it v2), some (it v3), some (it v4), some (it v5), some (it vs0), some (it 0), none]) (by decide +kernel : zi 54 39 = some (.istore 7, 2)) (Nat.le_of_ble_eq_true rfl) rfl ?_
  exact h
theorem f54_41 {xs : Nat → Int} {L : Nat} {d : Nat} {v1 : Int} {v2 : Int} {v3 : Int} {v4 : Int} {v5 : Int} {v6 : Int} {v7 : Int} {w8 : Option AV} {s : Pl} {P : Int → Pl → Prop} (h : ((v4 < v7 → P (-1) s) ∧ (¬ (v4 < v7) → ((400 < v7 → P (-1) s) ∧ (¬ (400 < v7) → ((v6 < zw (v7 - v5) → P (-1) s) ∧ (¬ (v6 < zw (v7 - v5)) → (0 ≤ v7 ∧ v7 < 402) ∧ ((¬ v7 = 0 → Ev xs L T0 104 d 58 [rf 63, it v7, it v2] (zup s 65 v7 (s 62 4)) (qv fun s1 => Fr xs L T0 104 d 54 97 [some (rf 63), some (it v1), some (it v2), some (it v3), some (it v4), some (it v5), some (it v6), some (it v7), w8] [] s1 (qi P))) ∧ (¬ (¬ v7 = 0) → Ev xs L T0 104 d 55 [rf 63, it v1] (zup s 65 v7 (s 62 4)) (qv fun s2 => Fr xs L T0 104 d 54 97 [some (rf 63), some (it v1), some (it v2), some (it v3), some (it v4), some (it v5), some (it v6), some (it v7), w8] [] s2 (qi P))))))))))) : Fr xs L T0 104 d 54 41 [some (rf 63), some (it v1), some (it v2), some (it v3), some (it v4), some (it v5), some (it v6), some (it v7), w8] [] s (qi P) := by
  refine Fr.ild (by decide +kernel : zi 54 41 = some (.iload 7, 2)) rfl ?_
  refine Fr.ild (by decide +kernel : zi 54 43 = some (.iload 4, 2)) rfl ?_
  refine Fr.if2 (q := 242) (by decide +kernel : zi 54 45 = some (.if_icmp .gt 197, 3)) (by decide +kernel) (fun g9 => ?_) (fun g9 => ?_)
  · have h := h.1 g9
    refine Fr.iconst (by decide +kernel : zi 54 242 = some (.iconst (-1), 1)) (by decide) ?_
    exact Fr.retI (by decide +kernel : zi 54 243 = some (.ireturn, 1)) (by decide +kernel) h
  · have h := h.2 g9
    refine Fr.ild (by decide +kernel : zi 54 48 = some (.iload 7, 2)) rfl ?_
    refine Fr.sipush (by decide +kernel : zi 54 50 = some (.sipush 400, 3)) (by decide) ?_
    refine Fr.if2 (q := 242) (by decide +kernel : zi 54 53 = some (.if_icmp .gt 189, 3)) (by decide +kernel) (fun g9 => ?_) (fun g9 => ?_)
    · have h := h.1 g9
      refine Fr.iconst (by decide +kernel : zi 54 242 = some (.iconst (-1), 1)) (by decide) ?_
      exact Fr.retI (by decide +kernel : zi 54 243 = some (.ireturn, 1)) (by decide +kernel) h
    · have h := h.2 g9
      refine Fr.ild (by decide +kernel : zi 54 56 = some (.iload 7, 2)) rfl ?_
      refine Fr.ild (by decide +kernel : zi 54 58 = some (.iload 5, 2)) rfl ?_
      refine Fr.isub (by decide +kernel : zi 54 60 = some (.isub, 1)) ?_
      refine Fr.ild (by decide +kernel : zi 54 61 = some (.iload 6, 2)) rfl ?_
      refine Fr.if2 (q := 242) (by decide +kernel : zi 54 63 = some (.if_icmp .gt 179, 3)) (by decide +kernel) (fun g9 => ?_) (fun g9 => ?_)
      · have h := h.1 g9
        refine Fr.iconst (by decide +kernel : zi 54 242 = some (.iconst (-1), 1)) (by decide) ?_
        exact Fr.retI (by decide +kernel : zi 54 243 = some (.ireturn, 1)) (by decide +kernel) h
      · have h := h.2 g9
        refine Fr.aldn (c := 63) (by decide +kernel : zi 54 66 = some (.aload_n 0, 1)) rfl ⟨by omega, by omega⟩ ?_
        refine Fr.gR (c := 62) (c2 := 66) (ci := 4) (k := 3) 3 (by decide +kernel : zi 54 67 = some (.getfield 18, 3)) (by decide +kernel) (by decide +kernel) (by decide +kernel) (by decide) rfl (fun q => q (62, 3, 66) (by decide +kernel)) ?_
        refine Fr.ild (by decide +kernel : zi 54 70 = some (.iload 7, 2)) rfl ?_
        refine Fr.aldn (c := 63) (by decide +kernel : zi 54 72 = some (.aload_n 0, 1)) rfl ⟨by omega, by omega⟩ ?_
        refine Fr.gI (c := 62) (ci := 4) (k := 4) (t := 0) 4 (by decide +kernel : zi 54 73 = some (.getfield 31, 3)) (by decide +kernel) (by decide +kernel) (by decide +kernel) (by decide) rfl ?_
        obtain ⟨⟨g0, g1⟩, h⟩ := h
        refine Fr.iast (c := 65) (N := 402) (by decide +kernel : zi 54 76 = some (.iastore, 1)) (by decide +kernel) (by decide) g0 g1 ?_
        refine Fr.ild (by decide +kernel : zi 54 77 = some (.iload 7, 2)) rfl ?_
        refine Fr.if0 (q := 90) (by decide +kernel : zi 54 79 = some (.ifCond .ne 11, 3)) (by decide +kernel) (fun g9 => ?_) (fun g9 => ?_)
        · have h := h.1 g9
          refine Fr.aldn (c := 63) (by decide +kernel : zi 54 90 = some (.aload_n 0, 1)) rfl ⟨by omega, by omega⟩ ?_
          refine Fr.ild (by decide +kernel : zi 54 91 = some (.iload 7, 2)) rfl ?_
          refine Fr.ildn (by decide +kernel : zi 54 93 = some (.iload_n 2, 1)) rfl ?_
          refine Fr.callV (y2 := 58) (na := 3) (as := [rf 63, it v7, it v2]) (rest := []) (by decide +kernel : zi 54 94 = some (.invokevirtual 48, 3)) rfl (by decide +kernel) (by decide +kernel) rfl rfl (zok_V rfl (by decide) (by decide +kernel) (by decide +kernel) (zrecv_c (c := 62) (by decide) (by decide +kernel)) rfl (Nat.le_of_ble_eq_true rfl)) h (fun s1 h => ?_)
          exact h
        · have h := h.2 g9
          refine Fr.aldn (c := 63) (by decide +kernel : zi 54 82 = some (.aload_n 0, 1)) rfl ⟨by omega, by omega⟩ ?_
          refine Fr.ildn (by decide +kernel : zi 54 83 = some (.iload_n 1, 1)) rfl ?_
          refine Fr.callV (y2 := 55) (na := 2) (as := [rf 63, it v1]) (rest := []) (by decide +kernel : zi 54 84 = some (.invokevirtual 44, 3)) rfl (by decide +kernel) (by decide +kernel) rfl rfl (zok_V rfl (by decide) (by decide +kernel) (by decide +kernel) (zrecv_c (c := 62) (by decide) (by decide +kernel)) rfl (Nat.le_of_ble_eq_true rfl)) h (fun s2 h => ?_)
          refine Fr.goto (q := 97) (by decide +kernel : zi 54 87 = some (.goto 10, 3)) (by decide +kernel) ?_
          exact h
theorem f54_97 {xs : Nat → Int} {L : Nat} {d : Nat} {v1 : Int} {v2 : Int} {v3 : Int} {v4 : Int} {v5 : Int} {v6 : Int} {v7 : Int} {w8 : Option AV} {s : Pl} {P : Int → Pl → Prop} (h : (0 ≤ v7 ∧ v7 < 402) ∧ Fr xs L T0 104 d 54 106 [some (rf 63), some (it v1), some (it v2), some (it v3), some (it v4), some (it v5), some (it v6), some (it v7), some (it (s 65 v7))] [] s (qi P)) : Fr xs L T0 104 d 54 97 [some (rf 63), some (it v1), some (it v2), some (it v3), some (it v4), some (it v5), some (it v6), some (it v7), w8] [] s (qi P) := by
  refine Fr.aldn (c := 63) (by decide +kernel : zi 54 97 = some (.aload_n 0, 1)) rfl ⟨by omega, by omega⟩ ?_
  refine Fr.gR (c := 62) (c2 := 66) (ci := 4) (k := 3) 3 (by decide +kernel : zi 54 98 = some (.getfield 18, 3)) (by decide +kernel) (by decide +kernel) (by decide +kernel) (by decide) rfl (fun q => q (62, 3, 66) (by decide +kernel)) ?_
  refine Fr.ild (by decide +kernel : zi 54 101 = some (.iload 7, 2)) rfl ?_
  obtain ⟨⟨g0, g1⟩, h⟩ := h
  refine Fr.iald (c := 65) (N := 402) (by decide +kernel : zi 54 103 = some (.iaload, 1)) (by decide +kernel) (by decide) g0 g1 ?_
  refine Fr.ist (lv2 := [some (rf 63), some (it v1), some (it v2), some (it v3), some (it v4), some (it v5), some (it v6), some (it v7), some (it (s 65 v7))]) (by decide +kernel : zi 54 104 = some (.istore 8, 2)) (Nat.le_of_ble_eq_true rfl) rfl ?_
  exact h
theorem f54_106 {xs : Nat → Int} {L : Nat} {d : Nat} {v1 : Int} {v2 : Int} {v3 : Int} {v4 : Int} {v5 : Int} {v6 : Int} {v7 : Int} {v8 : Int} {s : Pl} {P : Int → Pl → Prop} (h : ((s 62 4 ≤ v8 → Fr xs L T0 104 d 54 215 [some (rf 63), some (it v1), some (it v2), some (it v3), some (it v4), some (it v5), some (it v6), some (it v7), some (it v8)] [] s (qi P)) ∧ (¬ (s 62 4 ≤ v8) → ((1440 ≤ v8 → Fr xs L T0 104 d 54 215 [some (rf 63), some (it v1), some (it v2), some (it v3), some (it v4), some (it v5), some (it v6), some (it v7), some (it v8)] [] s (qi P)) ∧ (¬ (1440 ≤ v8) → (0 ≤ v8 ∧ v8 < 1440) ∧ Ev xs L T0 104 d 42 [rf 56, it (s 64 v8)] s (qv fun s1 => ((¬ zand (s1 55 14) v3 = v3 → ((¬ v2 = 1 → (0 ≤ v8 ∧ v8 < 1440) ∧ Ev xs L T0 104 d 57 [rf 63, it (s1 64 v8)] s1 (qv fun s2 => Fr xs L T0 104 d 54 185 [some (rf 63), some (it v1), some (it v2), some (it v3), some (it v4), some (it v5), some (it v6), some (it v7), some (it v8)] [] s2 (qi P))) ∧ (¬ (¬ v2 = 1) → (0 ≤ v8 ∧ v8 < 1440) ∧ Ev xs L T0 104 d 56 [rf 63, it (s1 64 v8)] s1 (qv fun s3 => Fr xs L T0 104 d 54 185 [some (rf 63), some (it v1), some (it v2), some (it v3), some (it v4), some (it v5), some (it v6), some (it v7), some (it v8)] [] s3 (qi P))))) ∧ (¬ (¬ zand (s1 55 14) v3 = v3) → P v7 s1)))))))) : Fr xs L T0 104 d 54 106 [some (rf 63), some (it v1), some (it v2), some (it v3), some (it v4), some (it v5), some (it v6), some (it v7), some (it v8)] [] s (qi P) := by
  refine Fr.ild (by decide +kernel : zi 54 106 = some (.iload 8, 2)) rfl ?_
  refine Fr.aldn (c := 63) (by decide +kernel : zi 54 108 = some (.aload_n 0, 1)) rfl ⟨by omega, by omega⟩ ?_
  refine Fr.gI (c := 62) (ci := 4) (k := 4) (t := 0) 4 (by decide +kernel : zi 54 109 = some (.getfield 31, 3)) (by decide +kernel) (by decide +kernel) (by decide +kernel) (by decide) rfl ?_
  refine Fr.if2 (q := 215) (by decide +kernel : zi 54 112 = some (.if_icmp .ge 103, 3)) (by decide +kernel) (fun g9 => ?_) (fun g9 => ?_)
  · have h := h.1 g9
    exact h
  · have h := h.2 g9
    refine Fr.ild (by decide +kernel : zi 54 115 = some (.iload 8, 2)) rfl ?_
    refine Fr.aldn (c := 63) (by decide +kernel : zi 54 117 = some (.aload_n 0, 1)) rfl ⟨by omega, by omega⟩ ?_
    refine Fr.gR (c := 62) (c2 := 65) (ci := 4) (k := 2) 2 (by decide +kernel : zi 54 118 = some (.getfield 15, 3)) (by decide +kernel) (by decide +kernel) (by decide +kernel) (by decide) rfl (fun q => q (62, 2, 65) (by decide +kernel)) ?_
    refine Fr.alen (c := 64) (N := 1440) (K := 20) (by decide +kernel : zi 54 121 = some (.arraylength, 1)) (by decide +kernel) (by decide) (by decide) ?_
    refine Fr.if2 (q := 215) (by decide +kernel : zi 54 122 = some (.if_icmp .ge 93, 3)) (by decide +kernel) (fun g9 => ?_) (fun g9 => ?_)
    · have h := h.1 g9
      exact h
    · have h := h.2 g9
      refine Fr.aldn (c := 63) (by decide +kernel : zi 54 125 = some (.aload_n 0, 1)) rfl ⟨by omega, by omega⟩ ?_
      refine Fr.gR (c := 62) (c2 := 56) (ci := 4) (k := 0) 0 (by decide +kernel : zi 54 126 = some (.getfield 21, 3)) (by decide +kernel) (by decide +kernel) (by decide +kernel) (by decide) rfl (fun q => q (62, 0, 56) (by decide +kernel)) ?_
      refine Fr.aldn (c := 63) (by decide +kernel : zi 54 129 = some (.aload_n 0, 1)) rfl ⟨by omega, by omega⟩ ?_
      refine Fr.gR (c := 62) (c2 := 65) (ci := 4) (k := 2) 2 (by decide +kernel : zi 54 130 = some (.getfield 15, 3)) (by decide +kernel) (by decide +kernel) (by decide +kernel) (by decide) rfl (fun q => q (62, 2, 65) (by decide +kernel)) ?_
      refine Fr.ild (by decide +kernel : zi 54 133 = some (.iload 8, 2)) rfl ?_
      obtain ⟨⟨g0, g1⟩, h⟩ := h
      refine Fr.iald (c := 64) (N := 1440) (by decide +kernel : zi 54 135 = some (.iaload, 1)) (by decide +kernel) (by decide) g0 g1 ?_
      refine Fr.callV (y2 := 42) (na := 2) (as := [rf 56, it (s 64 v8)]) (rest := []) (by decide +kernel : zi 54 136 = some (.invokevirtual 52, 3)) rfl (by decide +kernel) (by decide +kernel) rfl rfl (zok_V rfl (by decide) (by decide +kernel) (by decide +kernel) (zrecv_c (c := 55) (by decide) (by decide +kernel)) rfl (Nat.le_of_ble_eq_true rfl)) h (fun s1 h => ?_)
      refine Fr.aldn (c := 63) (by decide +kernel : zi 54 139 = some (.aload_n 0, 1)) rfl ⟨by omega, by omega⟩ ?_
      refine Fr.gR (c := 62) (c2 := 56) (ci := 4) (k := 0) 0 (by decide +kernel : zi 54 140 = some (.getfield 21, 3)) (by decide +kernel) (by decide +kernel) (by decide +kernel) (by decide) rfl (fun q => q (62, 0, 56) (by decide +kernel)) ?_
      refine Fr.gI (c := 55) (ci := 3) (k := 14) (t := 0) 14 (by decide +kernel : zi 54 143 = some (.getfield 55, 3)) (by decide +kernel) (by decide +kernel) (by decide +kernel) (by decide) rfl ?_
      refine Fr.ildn (by decide +kernel : zi 54 146 = some (.iload_n 3, 1)) rfl ?_
      refine Fr.iand (by decide +kernel : zi 54 147 = some (.iand, 1)) ?_
      refine Fr.ildn (by decide +kernel : zi 54 148 = some (.iload_n 3, 1)) rfl ?_
      refine Fr.if2 (q := 155) (by decide +kernel : zi 54 149 = some (.if_icmp .ne 6, 3)) (by decide +kernel) (fun g9 => ?_) (fun g9 => ?_)
      · have h := h.1 g9
        refine Fr.ildn (by decide +kernel : zi 54 155 = some (.iload_n 2, 1)) rfl ?_
        refine Fr.iconst (by decide +kernel : zi 54 156 = some (.iconst 1, 1)) (by decide) ?_
        refine Fr.if2 (q := 174) (by decide +kernel : zi 54 157 = some (.if_icmp .ne 17, 3)) (by decide +kernel) (fun g9 => ?_) (fun g9 => ?_)
        · have h := h.1 g9
          refine Fr.aldn (c := 63) (by decide +kernel : zi 54 174 = some (.aload_n 0, 1)) rfl ⟨by omega, by omega⟩ ?_
          refine Fr.aldn (c := 63) (by decide +kernel : zi 54 175 = some (.aload_n 0, 1)) rfl ⟨by omega, by omega⟩ ?_
          refine Fr.gR (c := 62) (c2 := 65) (ci := 4) (k := 2) 2 (by decide +kernel : zi 54 176 = some (.getfield 15, 3)) (by decide +kernel) (by decide +kernel) (by decide +kernel) (by decide) rfl (fun q => q (62, 2, 65) (by decide +kernel)) ?_
          refine Fr.ild (by decide +kernel : zi 54 179 = some (.iload 8, 2)) rfl ?_
          obtain ⟨⟨g0, g1⟩, h⟩ := h
          refine Fr.iald (c := 64) (N := 1440) (by decide +kernel : zi 54 181 = some (.iaload, 1)) (by decide +kernel) (by decide) g0 g1 ?_
          refine Fr.callV (y2 := 57) (na := 2) (as := [rf 63, it (s1 64 v8)]) (rest := []) (by decide +kernel : zi 54 182 = some (.invokevirtual 61, 3)) rfl (by decide +kernel) (by decide +kernel) rfl rfl (zok_V rfl (by decide) (by decide +kernel) (by decide +kernel) (zrecv_c (c := 62) (by decide) (by decide +kernel)) rfl (Nat.le_of_ble_eq_true rfl)) h (fun s2 h => ?_)
          exact h
        · have h := h.2 g9
          refine Fr.aldn (c := 63) (by decide +kernel : zi 54 160 = some (.aload_n 0, 1)) rfl ⟨by omega, by omega⟩ ?_
          refine Fr.aldn (c := 63) (by decide +kernel : zi 54 161 = some (.aload_n 0, 1)) rfl ⟨by omega, by omega⟩ ?_
          refine Fr.gR (c := 62) (c2 := 65) (ci := 4) (k := 2) 2 (by decide +kernel : zi 54 162 = some (.getfield 15, 3)) (by decide +kernel) (by decide +kernel) (by decide +kernel) (by decide) rfl (fun q => q (62, 2, 65) (by decide +kernel)) ?_
          refine Fr.ild (by decide +kernel : zi 54 165 = some (.iload 8, 2)) rfl ?_
          obtain ⟨⟨g0, g1⟩, h⟩ := h
          refine Fr.iald (c := 64) (N := 1440) (by decide +kernel : zi 54 167 = some (.iaload, 1)) (by decide +kernel) (by decide) g0 g1 ?_
          refine Fr.callV (y2 := 56) (na := 2) (as := [rf 63, it (s1 64 v8)]) (rest := []) (by decide +kernel : zi 54 168 = some (.invokevirtual 58, 3)) rfl (by decide +kernel) (by decide +kernel) rfl rfl (zok_V rfl (by decide) (by decide +kernel) (by decide +kernel) (zrecv_c (c := 62) (by decide) (by decide +kernel)) rfl (Nat.le_of_ble_eq_true rfl)) h (fun s3 h => ?_)
          refine Fr.goto (q := 185) (by decide +kernel : zi 54 171 = some (.goto 14, 3)) (by decide +kernel) ?_
          exact h
      · have h := h.2 g9
        refine Fr.ild (by decide +kernel : zi 54 152 = some (.iload 7, 2)) rfl ?_
        exact Fr.retI (by decide +kernel : zi 54 154 = some (.ireturn, 1)) (by decide +kernel) h
theorem f54_185 {xs : Nat → Int} {L : Nat} {d : Nat} {v1 : Int} {v2 : Int} {v3 : Int} {v4 : Int} {v5 : Int} {v6 : Int} {v7 : Int} {v8 : Int} {s : Pl} {P : Int → Pl → Prop} (h : (0 ≤ v8 ∧ v8 < 1440) ∧ (0 ≤ v8 ∧ v8 < 1440) ∧ Fr xs L T0 104 d 54 106 [some (rf 63), some (it v1), some (it v2), some (it v3), some (it v4), some (it v7), some (it v6), some (it v7), some (it (zw (v8 + 1)))] [] (zup s 64 v8 (zor (s 64 v8) (zshl (s 55 14) 16))) (qi P)) : Fr xs L T0 104 d 54 185 [some (rf 63), some (it v1), some (it v2), some (it v3), some (it v4), some (it v5), some (it v6), some (it v7), some (it v8)] [] s (qi P) := by
  refine Fr.aldn (c := 63) (by decide +kernel : zi 54 185 = some (.aload_n 0, 1)) rfl ⟨by omega, by omega⟩ ?_
  refine Fr.gR (c := 62) (c2 := 65) (ci := 4) (k := 2) 2 (by decide +kernel : zi 54 186 = some (.getfield 15, 3)) (by decide +kernel) (by decide +kernel) (by decide +kernel) (by decide) rfl (fun q => q (62, 2, 65) (by decide +kernel)) ?_
  refine Fr.ild (by decide +kernel : zi 54 189 = some (.iload 8, 2)) rfl ?_
  refine Fr.dup2 (by decide +kernel : zi 54 191 = some (.dup2, 1)) ⟨rfl, rfl⟩ ?_
  obtain ⟨⟨g0, g1⟩, h⟩ := h
  refine Fr.iald (c := 64) (N := 1440) (by decide +kernel : zi 54 192 = some (.iaload, 1)) (by decide +kernel) (by decide) g0 g1 ?_
  refine Fr.aldn (c := 63) (by decide +kernel : zi 54 193 = some (.aload_n 0, 1)) rfl ⟨by omega, by omega⟩ ?_
  refine Fr.gR (c := 62) (c2 := 56) (ci := 4) (k := 0) 0 (by decide +kernel : zi 54 194 = some (.getfield 21, 3)) (by decide +kernel) (by decide +kernel) (by decide +kernel) (by decide) rfl (fun q => q (62, 0, 56) (by decide +kernel)) ?_
  refine Fr.gI (c := 55) (ci := 3) (k := 14) (t := 0) 14 (by decide +kernel : zi 54 197 = some (.getfield 55, 3)) (by decide +kernel) (by decide +kernel) (by decide +kernel) (by decide) rfl ?_
  refine Fr.bipush (by decide +kernel : zi 54 200 = some (.bipush 16, 2)) (by decide) ?_
  refine Fr.ishl (by decide +kernel : zi 54 202 = some (.ishl, 1)) ?_
  refine Fr.ior (by decide +kernel : zi 54 203 = some (.ior, 1)) ?_
  obtain ⟨⟨g0, g1⟩, h⟩ := h
  refine Fr.iast (c := 64) (N := 1440) (by decide +kernel : zi 54 204 = some (.iastore, 1)) (by decide +kernel) (by decide) g0 g1 ?_
  refine Fr.ild (by decide +kernel : zi 54 205 = some (.iload 7, 2)) rfl ?_
  refine Fr.ist (lv2 := [some (rf 63), some (it v1), some (it v2), some (it v3), some (it v4), some (it v7), some (it v6), some (it v7), some (it v8)]) (by decide +kernel : zi 54 207 = some (.istore 5, 2)) (Nat.le_of_ble_eq_true rfl) rfl ?_
  refine Fr.iinc (lv2 := [some (rf 63), some (it v1), some (it v2), some (it v3), some (it v4), some (it v7), some (it v6), some (it v7), some (it (zw (v8 + 1)))]) (by decide +kernel : zi 54 209 = some (.iinc 8 1, 3)) (Nat.le_of_ble_eq_true rfl) rfl rfl ?_
  refine Fr.goto (q := 106) (by decide +kernel : zi 54 212 = some (.goto (-106), 3)) (by decide +kernel) ?_
  exact h
theorem f54_215 {xs : Nat → Int} {L : Nat} {d : Nat} {v1 : Int} {v2 : Int} {v3 : Int} {v4 : Int} {v5 : Int} {v6 : Int} {v7 : Int} {v8 : Int} {s : Pl} {P : Int → Pl → Prop} (h : (0 ≤ (zup s 62 5 (zw (v7 + 1))) 62 5 ∧ (zup s 62 5 (zw (v7 + 1))) 62 5 < 402) ∧ Fr xs L T0 104 d 54 41 [some (rf 63), some (it v1), some (it v2), some (it v3), some (it v4), some (it v5), some (it v6), some (it (zw (v7 + 1))), some (it v8)] [] (zup (zup s 62 5 (zw (v7 + 1))) 65 ((zup s 62 5 (zw (v7 + 1))) 62 5) ((zup s 62 5 (zw (v7 + 1))) 62 4)) (qi P)) : Fr xs L T0 104 d 54 215 [some (rf 63), some (it v1), some (it v2), some (it v3), some (it v4), some (it v5), some (it v6), some (it v7), some (it v8)] [] s (qi P) := by
  refine Fr.aldn (c := 63) (by decide +kernel : zi 54 215 = some (.aload_n 0, 1)) rfl ⟨by omega, by omega⟩ ?_
  refine Fr.ild (by decide +kernel : zi 54 216 = some (.iload 7, 2)) rfl ?_
  refine Fr.iconst (by decide +kernel : zi 54 218 = some (.iconst 1, 1)) (by decide) ?_
  refine Fr.iadd (by decide +kernel : zi 54 219 = some (.iadd, 1)) ?_
  refine Fr.pI (c := 62) (ci := 4) (k := 5) 5 (by decide +kernel : zi 54 220 = some (.putfield 35, 3)) (by decide +kernel) (by decide +kernel) (by decide +kernel) (by decide) rfl ?_
  refine Fr.aldn (c := 63) (by decide +kernel : zi 54 223 = some (.aload_n 0, 1)) rfl ⟨by omega, by omega⟩ ?_
  refine Fr.gR (c := 62) (c2 := 66) (ci := 4) (k := 3) 3 (by decide +kernel : zi 54 224 = some (.getfield 18, 3)) (by decide +kernel) (by decide +kernel) (by decide +kernel) (by decide) rfl (fun q => q (62, 3, 66) (by decide +kernel)) ?_
  refine Fr.aldn (c := 63) (by decide +kernel : zi 54 227 = some (.aload_n 0, 1)) rfl ⟨by omega, by omega⟩ ?_
  refine Fr.gI (c := 62) (ci := 4) (k := 5) (t := 0) 5 (by decide +kernel : zi 54 228 = some (.getfield 35, 3)) (by decide +kernel) (by decide +kernel) (by decide +kernel) (by decide) rfl ?_
  refine Fr.aldn (c := 63) (by decide +kernel : zi 54 231 = some (.aload_n 0, 1)) rfl ⟨by omega, by omega⟩ ?_
  refine Fr.gI (c := 62) (ci := 4) (k := 4) (t := 0) 4 (by decide +kernel : zi 54 232 = some (.getfield 31, 3)) (by decide +kernel) (by decide +kernel) (by decide +kernel) (by decide) rfl ?_
  obtain ⟨⟨g0, g1⟩, h⟩ := h
  refine Fr.iast (c := 65) (N := 402) (by decide +kernel : zi 54 235 = some (.iastore, 1)) (by decide +kernel) (by decide) g0 g1 ?_
  refine Fr.iinc (lv2 := [some (rf 63), some (it v1), some (it v2), some (it v3), some (it v4), some (it v5), some (it v6), some (it (zw (v7 + 1))), some (it v8)]) (by decide +kernel : zi 54 236 = some (.iinc 7 1, 3)) (Nat.le_of_ble_eq_true rfl) rfl rfl ?_
  refine Fr.goto (q := 41) (by decide +kernel : zi 54 239 = some (.goto (-198), 3)) (by decide +kernel) ?_
  exact h
-- 55 X4_add
theorem f55_0 {xs : Nat → Int} {L : Nat} {d : Nat} {v1 : Int} {s : Pl} {P : Pl → Prop} (h : ((v1 < 0 → P s) ∧ (¬ (v1 < 0) → ((62500 ≤ v1 → P s) ∧ (¬ (62500 ≤ v1) → ((s 62 4 < 1440 → (0 ≤ zshr v1 5 ∧ zshr v1 5 < 1954) ∧ ((¬ zand (s 63 (zshr v1 5)) (zshl 1 (zand v1 31)) = 0 → P s) ∧ (¬ (¬ zand (s 63 (zshr v1 5)) (zshl 1 (zand v1 31)) = 0) → (0 ≤ zshr v1 5 ∧ zshr v1 5 < 1954) ∧ (0 ≤ zshr v1 5 ∧ zshr v1 5 < 1954) ∧ (0 ≤ (zup s 63 (zshr v1 5) (zor (s 63 (zshr v1 5)) (zshl 1 (zand v1 31)))) 62 4 ∧ (zup s 63 (zshr v1 5) (zor (s 63 (zshr v1 5)) (zshl 1 (zand v1 31)))) 62 4 < 1440) ∧ P (zup (zup (zup s 63 (zshr v1 5) (zor (s 63 (zshr v1 5)) (zshl 1 (zand v1 31)))) 64 ((zup s 63 (zshr v1 5) (zor (s 63 (zshr v1 5)) (zshl 1 (zand v1 31)))) 62 4) v1) 62 4 (zw (((zup (zup s 63 (zshr v1 5) (zor (s 63 (zshr v1 5)) (zshl 1 (zand v1 31)))) 64 ((zup s 63 (zshr v1 5) (zor (s 63 (zshr v1 5)) (zshl 1 (zand v1 31)))) 62 4) v1) 62 4) + 1)))))) ∧ (¬ (s 62 4 < 1440) → P s))))))) : Fr xs L T0 104 d 55 0 [some (rf 63), some (it v1), none] [] s (qv P) := by
  refine Fr.ildn (by decide +kernel : zi 55 0 = some (.iload_n 1, 1)) rfl ?_
  refine Fr.if0 (q := 22) (by decide +kernel : zi 55 1 = some (.ifCond .lt 21, 3)) (by decide +kernel) (fun g9 => ?_) (fun g9 => ?_)
  · have h := h.1 g9
    exact Fr.retV (by decide +kernel : zi 55 22 = some (.return_, 1)) (by decide +kernel) h
  · have h := h.2 g9
    refine Fr.ildn (by decide +kernel : zi 55 4 = some (.iload_n 1, 1)) rfl ?_
    refine Fr.ldc (v := it 62500) (by decide +kernel : zi 55 5 = some (.ldc 64, 2)) (by decide +kernel) ?_
    refine Fr.if2 (q := 22) (by decide +kernel : zi 55 7 = some (.if_icmp .ge 15, 3)) (by decide +kernel) (fun g9 => ?_) (fun g9 => ?_)
    · have h := h.1 g9
      exact Fr.retV (by decide +kernel : zi 55 22 = some (.return_, 1)) (by decide +kernel) h
    · have h := h.2 g9
      refine Fr.aldn (c := 63) (by decide +kernel : zi 55 10 = some (.aload_n 0, 1)) rfl ⟨by omega, by omega⟩ ?_
      refine Fr.gI (c := 62) (ci := 4) (k := 4) (t := 0) 4 (by decide +kernel : zi 55 11 = some (.getfield 31, 3)) (by decide +kernel) (by decide +kernel) (by decide +kernel) (by decide) rfl ?_
      refine Fr.aldn (c := 63) (by decide +kernel : zi 55 14 = some (.aload_n 0, 1)) rfl ⟨by omega, by omega⟩ ?_
      refine Fr.gR (c := 62) (c2 := 65) (ci := 4) (k := 2) 2 (by decide +kernel : zi 55 15 = some (.getfield 15, 3)) (by decide +kernel) (by decide +kernel) (by decide +kernel) (by decide) rfl (fun q => q (62, 2, 65) (by decide +kernel)) ?_
      refine Fr.alen (c := 64) (N := 1440) (K := 20) (by decide +kernel : zi 55 18 = some (.arraylength, 1)) (by decide +kernel) (by decide) (by decide) ?_
      refine Fr.if2 (q := 23) (by decide +kernel : zi 55 19 = some (.if_icmp .lt 4, 3)) (by decide +kernel) (fun g9 => ?_) (fun g9 => ?_)
      · have h := h.1 g9
        refine Fr.iconst (by decide +kernel : zi 55 23 = some (.iconst 1, 1)) (by decide) ?_
        refine Fr.ildn (by decide +kernel : zi 55 24 = some (.iload_n 1, 1)) rfl ?_
        refine Fr.bipush (by decide +kernel : zi 55 25 = some (.bipush 31, 2)) (by decide) ?_
        refine Fr.iand (by decide +kernel : zi 55 27 = some (.iand, 1)) ?_
        refine Fr.ishl (by decide +kernel : zi 55 28 = some (.ishl, 1)) ?_
        refine Fr.istn (lv2 := [some (rf 63), some (it v1), some (it (zshl 1 (zand v1 31)))]) (by decide +kernel : zi 55 29 = some (.istore_n 2, 1)) (Nat.le_of_ble_eq_true rfl) rfl ?_
        refine Fr.aldn (c := 63) (by decide +kernel : zi 55 30 = some (.aload_n 0, 1)) rfl ⟨by omega, by omega⟩ ?_
        refine Fr.gR (c := 62) (c2 := 64) (ci := 4) (k := 1) 1 (by decide +kernel : zi 55 31 = some (.getfield 11, 3)) (by decide +kernel) (by decide +kernel) (by decide +kernel) (by decide) rfl (fun q => q (62, 1, 64) (by decide +kernel)) ?_
        refine Fr.ildn (by decide +kernel : zi 55 34 = some (.iload_n 1, 1)) rfl ?_
        refine Fr.iconst (by decide +kernel : zi 55 35 = some (.iconst 5, 1)) (by decide) ?_
        refine Fr.ishr (by decide +kernel : zi 55 36 = some (.ishr, 1)) ?_
        obtain ⟨⟨g0, g1⟩, h⟩ := h
        refine Fr.iald (c := 63) (N := 1954) (by decide +kernel : zi 55 37 = some (.iaload, 1)) (by decide +kernel) (by decide) g0 g1 ?_
        refine Fr.ildn (by decide +kernel : zi 55 38 = some (.iload_n 2, 1)) rfl ?_
        refine Fr.iand (by decide +kernel : zi 55 39 = some (.iand, 1)) ?_
        refine Fr.if0 (q := 75) (by decide +kernel : zi 55 40 = some (.ifCond .ne 35, 3)) (by decide +kernel) (fun g9 => ?_) (fun g9 => ?_)
        · have h := h.1 g9
          exact Fr.retV (by decide +kernel : zi 55 75 = some (.return_, 1)) (by decide +kernel) h
        · have h := h.2 g9
          refine Fr.aldn (c := 63) (by decide +kernel : zi 55 43 = some (.aload_n 0, 1)) rfl ⟨by omega, by omega⟩ ?_
          refine Fr.gR (c := 62) (c2 := 64) (ci := 4) (k := 1) 1 (by decide +kernel : zi 55 44 = some (.getfield 11, 3)) (by decide +kernel) (by decide +kernel) (by decide +kernel) (by decide) rfl (fun q => q (62, 1, 64) (by decide +kernel)) ?_
          refine Fr.ildn (by decide +kernel : zi 55 47 = some (.iload_n 1, 1)) rfl ?_
          refine Fr.iconst (by decide +kernel : zi 55 48 = some (.iconst 5, 1)) (by decide) ?_
          refine Fr.ishr (by decide +kernel : zi 55 49 = some (.ishr, 1)) ?_
          refine Fr.dup2 (by decide +kernel : zi 55 50 = some (.dup2, 1)) ⟨rfl, rfl⟩ ?_
          obtain ⟨⟨g0, g1⟩, h⟩ := h
          refine Fr.iald (c := 63) (N := 1954) (by decide +kernel : zi 55 51 = some (.iaload, 1)) (by decide +kernel) (by decide) g0 g1 ?_
          refine Fr.ildn (by decide +kernel : zi 55 52 = some (.iload_n 2, 1)) rfl ?_
          refine Fr.ior (by decide +kernel : zi 55 53 = some (.ior, 1)) ?_
          obtain ⟨⟨g0, g1⟩, h⟩ := h
          refine Fr.iast (c := 63) (N := 1954) (by decide +kernel : zi 55 54 = some (.iastore, 1)) (by decide +kernel) (by decide) g0 g1 ?_
          refine Fr.aldn (c := 63) (by decide +kernel : zi 55 55 = some (.aload_n 0, 1)) rfl ⟨by omega, by omega⟩ ?_
          refine Fr.gR (c := 62) (c2 := 65) (ci := 4) (k := 2) 2 (by decide +kernel : zi 55 56 = some (.getfield 15, 3)) (by decide +kernel) (by decide +kernel) (by decide +kernel) (by decide) rfl (fun q => q (62, 2, 65) (by decide +kernel)) ?_
          refine Fr.aldn (c := 63) (by decide +kernel : zi 55 59 = some (.aload_n 0, 1)) rfl ⟨by omega, by omega⟩ ?_
          refine Fr.gI (c := 62) (ci := 4) (k := 4) (t := 0) 4 (by decide +kernel : zi 55 60 = some (.getfield 31, 3)) (by decide +kernel) (by decide +kernel) (by decide +kernel) (by decide) rfl ?_
          refine Fr.ildn (by decide +kernel : zi 55 63 = some (.iload_n 1, 1)) rfl ?_
          obtain ⟨⟨g0, g1⟩, h⟩ := h
          refine Fr.iast (c := 64) (N := 1440) (by decide +kernel : zi 55 64 = some (.iastore, 1)) (by decide +kernel) (by decide) g0 g1 ?_
          refine Fr.aldn (c := 63) (by decide +kernel : zi 55 65 = some (.aload_n 0, 1)) rfl ⟨by omega, by omega⟩ ?_
          refine Fr.dup (by decide +kernel : zi 55 66 = some (.dup, 1)) rfl ?_
          refine Fr.gI (c := 62) (ci := 4) (k := 4) (t := 0) 4 (by decide +kernel : zi 55 67 = some (.getfield 31, 3)) (by decide +kernel) (by decide +kernel) (by decide +kernel) (by decide) rfl ?_
          refine Fr.iconst (by decide +kernel : zi 55 70 = some (.iconst 1, 1)) (by decide) ?_
          refine Fr.iadd (by decide +kernel : zi 55 71 = some (.iadd, 1)) ?_
          refine Fr.pI (c := 62) (ci := 4) (k := 4) 4 (by decide +kernel : zi 55 72 = some (.putfield 31, 3)) (by decide +kernel) (by decide +kernel) (by decide +kernel) (by decide) rfl ?_
          exact Fr.retV (by decide +kernel : zi 55 75 = some (.return_, 1)) (by decide +kernel) h
      · have h := h.2 g9
        exact Fr.retV (by decide +kernel : zi 55 22 = some (.return_, 1)) (by decide +kernel) h
theorem e55 {xs : Nat → Int} {L : Nat} {d : Nat} {v1 : Int} {s : Pl} {Q : Option AV → Pl → Prop} (hd : 1 ≤ d) (k : Fr xs L T0 104 (d - 1) 55 0 [some (rf 63), some (it v1), none] [] s Q) : Ev xs L T0 104 d 55 [rf 63, it v1] s Q := Ev.of (by decide) _ rfl hd k
-- 56 X4_addRowed
theorem f56_0 {xs : Nat → Int} {L : Nat} {d : Nat} {v1 : Int} {s : Pl} {P : Pl → Prop} (h : Fr xs L T0 104 d 56 2 [some (rf 63), some (it v1), some (it 0)] [] s (qv P)) : Fr xs L T0 104 d 56 0 [some (rf 63), some (it v1), none] [] s (qv P) := by
  refine Fr.iconst (by decide +kernel : zi 56 0 = some (.iconst 0, 1)) (by decide) ?_
  refine Fr.istn (lv2 := [some (rf 63), some (it v1), some (it 0)]) (by decide +kernel : zi 56 1 = some (.istore_n 2, 1)) (Nat.le_of_ble_eq_true rfl) rfl ?_
  exact h
theorem e56 {xs : Nat → Int} {L : Nat} {d : Nat} {v1 : Int} {s : Pl} {Q : Option AV → Pl → Prop} (hd : 1 ≤ d) (k : Fr xs L T0 104 (d - 1) 56 0 [some (rf 63), some (it v1), none] [] s Q) : Ev xs L T0 104 d 56 [rf 63, it v1] s Q := Ev.of (by decide) _ rfl hd k
theorem f56_2 {xs : Nat → Int} {L : Nat} {d : Nat} {v1 : Int} {v2 : Int} {s : Pl} {P : Pl → Prop} (h : ((4 ≤ v2 → P s) ∧ (¬ (4 ≤ v2) → Ev xs L T0 104 d 46 [rf 56, it v1, it v2] s (qi fun r2 s1 => Ev xs L T0 104 d 55 [rf 63, it r2] s1 (qv fun s3 => Fr xs L T0 104 d 56 2 [some (rf 63), some (it v1), some (it (zw (v2 + 1)))] [] s3 (qv P)))))) : Fr xs L T0 104 d 56 2 [some (rf 63), some (it v1), some (it v2)] [] s (qv P) := by
  refine Fr.ildn (by decide +kernel : zi 56 2 = some (.iload_n 2, 1)) rfl ?_
  refine Fr.iconst (by decide +kernel : zi 56 3 = some (.iconst 4, 1)) (by decide) ?_
  refine Fr.if2 (q := 26) (by decide +kernel : zi 56 4 = some (.if_icmp .ge 22, 3)) (by decide +kernel) (fun g9 => ?_) (fun g9 => ?_)
  · have h := h.1 g9
    exact Fr.retV (by decide +kernel : zi 56 26 = some (.return_, 1)) (by decide +kernel) h
  · have h := h.2 g9
    refine Fr.aldn (c := 63) (by decide +kernel : zi 56 7 = some (.aload_n 0, 1)) rfl ⟨by omega, by omega⟩ ?_
    refine Fr.aldn (c := 63) (by decide +kernel : zi 56 8 = some (.aload_n 0, 1)) rfl ⟨by omega, by omega⟩ ?_
    refine Fr.gR (c := 62) (c2 := 56) (ci := 4) (k := 0) 0 (by decide +kernel : zi 56 9 = some (.getfield 21, 3)) (by decide +kernel) (by decide +kernel) (by decide +kernel) (by decide) rfl (fun q => q (62, 0, 56) (by decide +kernel)) ?_
    refine Fr.ildn (by decide +kernel : zi 56 12 = some (.iload_n 1, 1)) rfl ?_
    refine Fr.ildn (by decide +kernel : zi 56 13 = some (.iload_n 2, 1)) rfl ?_
    refine Fr.callI (y2 := 46) (na := 3) (as := [rf 56, it v1, it v2]) (rest := [rf 63]) (by decide +kernel : zi 56 14 = some (.invokevirtual 65, 3)) rfl (by decide +kernel) (by decide +kernel) rfl rfl (zok_V rfl (by decide) (by decide +kernel) (by decide +kernel) (zrecv_c (c := 55) (by decide) (by decide +kernel)) rfl (Nat.le_of_ble_eq_true rfl)) h (fun r2 s1 h => ?_)
    refine Fr.callV (y2 := 55) (na := 2) (as := [rf 63, it r2]) (rest := []) (by decide +kernel : zi 56 17 = some (.invokevirtual 44, 3)) rfl (by decide +kernel) (by decide +kernel) rfl rfl (zok_V rfl (by decide) (by decide +kernel) (by decide +kernel) (zrecv_c (c := 62) (by decide) (by decide +kernel)) rfl (Nat.le_of_ble_eq_true rfl)) h (fun s3 h => ?_)
    refine Fr.iinc (lv2 := [some (rf 63), some (it v1), some (it (zw (v2 + 1)))]) (by decide +kernel : zi 56 20 = some (.iinc 2 1, 3)) (Nat.le_of_ble_eq_true rfl) rfl rfl ?_
    refine Fr.goto (q := 2) (by decide +kernel : zi 56 23 = some (.goto (-21), 3)) (by decide +kernel) ?_
    exact h
-- 57 X4_addSwapped
theorem f57_0 {xs : Nat → Int} {L : Nat} {d : Nat} {v1 : Int} {s : Pl} {P : Pl → Prop} (h : Fr xs L T0 104 d 57 2 [some (rf 63), some (it v1), some (it 0), none] [] s (qv P)) : Fr xs L T0 104 d 57 0 [some (rf 63), some (it v1), none, none] [] s (qv P) := by
  refine Fr.iconst (by decide +kernel : zi 57 0 = some (.iconst 0, 1)) (by decide) ?_
  refine Fr.istn (lv2 := [some (rf 63), some (it v1), some (it 0), none]) (by decide +kernel : zi 57 1 = some (.istore_n 2, 1)) (Nat.le_of_ble_eq_true rfl) rfl ?_
  exact h
theorem e57 {xs : Nat → Int} {L : Nat} {d : Nat} {v1 : Int} {s : Pl} {Q : Option AV → Pl → Prop} (hd : 1 ≤ d) (k : Fr xs L T0 104 (d - 1) 57 0 [some (rf 63), some (it v1), none, none] [] s Q) : Ev xs L T0 104 d 57 [rf 63, it v1] s Q := Ev.of (by decide) _ rfl hd k
theorem f57_2 {xs : Nat → Int} {L : Nat} {d : Nat} {v1 : Int} {v2 : Int} {w3 : Option AV} {s : Pl} {P : Pl → Prop} (h : ((s 1 1 ≤ v2 → P s) ∧ (¬ (s 1 1 ≤ v2) → Fr xs L T0 104 d 57 18 [some (rf 63), some (it v1), some (it v2), some (it 0)] [] s (qv P)))) : Fr xs L T0 104 d 57 2 [some (rf 63), some (it v1), some (it v2), w3] [] s (qv P) := by
  refine Fr.ildn (by decide +kernel : zi 57 2 = some (.iload_n 2, 1)) rfl ?_
  refine Fr.aldn (c := 63) (by decide +kernel : zi 57 3 = some (.aload_n 0, 1)) rfl ⟨by omega, by omega⟩ ?_
  refine Fr.gR (c := 62) (c2 := 56) (ci := 4) (k := 0) 0 (by decide +kernel : zi 57 4 = some (.getfield 21, 3)) (by decide +kernel) (by decide +kernel) (by decide +kernel) (by decide) rfl (fun q => q (62, 0, 56) (by decide +kernel)) ?_
  refine Fr.gR (c := 55) (c2 := 2) (ci := 3) (k := 0) 0 (by decide +kernel : zi 57 7 = some (.getfield 69, 3)) (by decide +kernel) (by decide +kernel) (by decide +kernel) (by decide) rfl (fun q => q (55, 0, 2) (by decide +kernel)) ?_
  refine Fr.gI (c := 1) (ci := 0) (k := 1) (t := 0) 1 (by decide +kernel : zi 57 10 = some (.getfield 73, 3)) (by decide +kernel) (by decide +kernel) (by decide +kernel) (by decide) rfl ?_
  refine Fr.if2 (q := 81) (by decide +kernel : zi 57 13 = some (.if_icmp .ge 68, 3)) (by decide +kernel) (fun g9 => ?_) (fun g9 => ?_)
  · have h := h.1 g9
    exact Fr.retV (by decide +kernel : zi 57 81 = some (.return_, 1)) (by decide +kernel) h
  · have h := h.2 g9
    refine Fr.iconst (by decide +kernel : zi 57 16 = some (.iconst 0, 1)) (by decide) ?_
    refine Fr.istn (lv2 := [some (rf 63), some (it v1), some (it v2), some (it 0)]) (by decide +kernel : zi 57 17 = some (.istore_n 3, 1)) (Nat.le_of_ble_eq_true rfl) rfl ?_
    exact h
theorem f57_18 {xs : Nat → Int} {L : Nat} {d : Nat} {v1 : Int} {v2 : Int} {v3 : Int} {s : Pl} {P : Pl → Prop} (h : ((s 1 1 ≤ v3 → Fr xs L T0 104 d 57 75 [some (rf 63), some (it v1), some (it v2), some (it v3)] [] s (qv P)) ∧ (¬ (s 1 1 ≤ v3) → Ev xs L T0 104 d 43 [rf 56, it v2] s (qi fun r2 s1 => ((r2 = 0 → Fr xs L T0 104 d 57 75 [some (rf 63), some (it v1), some (it v2), some (it v3)] [] s1 (qv P)) ∧ (¬ (r2 = 0) → Ev xs L T0 104 d 47 [rf 56, it v2, it v3] s1 (qi fun r4 s3 => ((r4 = 0 → Fr xs L T0 104 d 57 69 [some (rf 63), some (it v1), some (it v2), some (it v3)] [] s3 (qv P)) ∧ (¬ (r4 = 0) → Ev xs L T0 104 d 45 [rf 56, it v1, it v2, it v3] s3 (qi fun r6 s5 => Ev xs L T0 104 d 55 [rf 63, it r6] s5 (qv fun s7 => Fr xs L T0 104 d 57 69 [some (rf 63), some (it v1), some (it v2), some (it v3)] [] s7 (qv P)))))))))))) : Fr xs L T0 104 d 57 18 [some (rf 63), some (it v1), some (it v2), some (it v3)] [] s (qv P) := by
  refine Fr.ildn (by decide +kernel : zi 57 18 = some (.iload_n 3, 1)) rfl ?_
  refine Fr.aldn (c := 63) (by decide +kernel : zi 57 19 = some (.aload_n 0, 1)) rfl ⟨by omega, by omega⟩ ?_
  refine Fr.gR (c := 62) (c2 := 56) (ci := 4) (k := 0) 0 (by decide +kernel : zi 57 20 = some (.getfield 21, 3)) (by decide +kernel) (by decide +kernel) (by decide +kernel) (by decide) rfl (fun q => q (62, 0, 56) (by decide +kernel)) ?_
  refine Fr.gR (c := 55) (c2 := 2) (ci := 3) (k := 0) 0 (by decide +kernel : zi 57 23 = some (.getfield 69, 3)) (by decide +kernel) (by decide +kernel) (by decide +kernel) (by decide) rfl (fun q => q (55, 0, 2) (by decide +kernel)) ?_
  refine Fr.gI (c := 1) (ci := 0) (k := 1) (t := 0) 1 (by decide +kernel : zi 57 26 = some (.getfield 73, 3)) (by decide +kernel) (by decide +kernel) (by decide +kernel) (by decide) rfl ?_
  refine Fr.if2 (q := 75) (by decide +kernel : zi 57 29 = some (.if_icmp .ge 46, 3)) (by decide +kernel) (fun g9 => ?_) (fun g9 => ?_)
  · have h := h.1 g9
    exact h
  · have h := h.2 g9
    refine Fr.aldn (c := 63) (by decide +kernel : zi 57 32 = some (.aload_n 0, 1)) rfl ⟨by omega, by omega⟩ ?_
    refine Fr.gR (c := 62) (c2 := 56) (ci := 4) (k := 0) 0 (by decide +kernel : zi 57 33 = some (.getfield 21, 3)) (by decide +kernel) (by decide +kernel) (by decide +kernel) (by decide) rfl (fun q => q (62, 0, 56) (by decide +kernel)) ?_
    refine Fr.ildn (by decide +kernel : zi 57 36 = some (.iload_n 2, 1)) rfl ?_
    refine Fr.callI (y2 := 43) (na := 2) (as := [rf 56, it v2]) (rest := []) (by decide +kernel : zi 57 37 = some (.invokevirtual 78, 3)) rfl (by decide +kernel) (by decide +kernel) rfl rfl (zok_V rfl (by decide) (by decide +kernel) (by decide +kernel) (zrecv_c (c := 55) (by decide) (by decide +kernel)) rfl (Nat.le_of_ble_eq_true rfl)) h (fun r2 s1 h => ?_)
    refine Fr.if0 (q := 75) (by decide +kernel : zi 57 40 = some (.ifCond .eq 35, 3)) (by decide +kernel) (fun g9 => ?_) (fun g9 => ?_)
    · have h := h.1 g9
      exact h
    · have h := h.2 g9
      refine Fr.aldn (c := 63) (by decide +kernel : zi 57 43 = some (.aload_n 0, 1)) rfl ⟨by omega, by omega⟩ ?_
      refine Fr.gR (c := 62) (c2 := 56) (ci := 4) (k := 0) 0 (by decide +kernel : zi 57 44 = some (.getfield 21, 3)) (by decide +kernel) (by decide +kernel) (by decide +kernel) (by decide) rfl (fun q => q (62, 0, 56) (by decide +kernel)) ?_
      refine Fr.ildn (by decide +kernel : zi 57 47 = some (.iload_n 2, 1)) rfl ?_
      refine Fr.ildn (by decide +kernel : zi 57 48 = some (.iload_n 3, 1)) rfl ?_
      refine Fr.callI (y2 := 47) (na := 3) (as := [rf 56, it v2, it v3]) (rest := []) (by decide +kernel : zi 57 49 = some (.invokevirtual 82, 3)) rfl (by decide +kernel) (by decide +kernel) rfl rfl (zok_V rfl (by decide) (by decide +kernel) (by decide +kernel) (zrecv_c (c := 55) (by decide) (by decide +kernel)) rfl (Nat.le_of_ble_eq_true rfl)) h (fun r4 s3 h => ?_)
      refine Fr.if0 (q := 69) (by decide +kernel : zi 57 52 = some (.ifCond .eq 17, 3)) (by decide +kernel) (fun g9 => ?_) (fun g9 => ?_)
      · have h := h.1 g9
        exact h
      · have h := h.2 g9
        refine Fr.aldn (c := 63) (by decide +kernel : zi 57 55 = some (.aload_n 0, 1)) rfl ⟨by omega, by omega⟩ ?_
        refine Fr.aldn (c := 63) (by decide +kernel : zi 57 56 = some (.aload_n 0, 1)) rfl ⟨by omega, by omega⟩ ?_
        refine Fr.gR (c := 62) (c2 := 56) (ci := 4) (k := 0) 0 (by decide +kernel : zi 57 57 = some (.getfield 21, 3)) (by decide +kernel) (by decide +kernel) (by decide +kernel) (by decide) rfl (fun q => q (62, 0, 56) (by decide +kernel)) ?_
        refine Fr.ildn (by decide +kernel : zi 57 60 = some (.iload_n 1, 1)) rfl ?_
        refine Fr.ildn (by decide +kernel : zi 57 61 = some (.iload_n 2, 1)) rfl ?_
        refine Fr.ildn (by decide +kernel : zi 57 62 = some (.iload_n 3, 1)) rfl ?_
        refine Fr.callI (y2 := 45) (na := 4) (as := [rf 56, it v1, it v2, it v3]) (rest := [rf 63]) (by decide +kernel : zi 57 63 = some (.invokevirtual 86, 3)) rfl (by decide +kernel) (by decide +kernel) rfl rfl (zok_V rfl (by decide) (by decide +kernel) (by decide +kernel) (zrecv_c (c := 55) (by decide) (by decide +kernel)) rfl (Nat.le_of_ble_eq_true rfl)) h (fun r6 s5 h => ?_)
        refine Fr.callV (y2 := 55) (na := 2) (as := [rf 63, it r6]) (rest := []) (by decide +kernel : zi 57 66 = some (.invokevirtual 44, 3)) rfl (by decide +kernel) (by decide +kernel) rfl rfl (zok_V rfl (by decide) (by decide +kernel) (by decide +kernel) (zrecv_c (c := 62) (by decide) (by decide +kernel)) rfl (Nat.le_of_ble_eq_true rfl)) h (fun s7 h => ?_)
        exact h
theorem f57_69 {xs : Nat → Int} {L : Nat} {d : Nat} {v1 : Int} {v2 : Int} {v3 : Int} {s : Pl} {P : Pl → Prop} (h : Fr xs L T0 104 d 57 18 [some (rf 63), some (it v1), some (it v2), some (it (zw (v3 + 1)))] [] s (qv P)) : Fr xs L T0 104 d 57 69 [some (rf 63), some (it v1), some (it v2), some (it v3)] [] s (qv P) := by
  refine Fr.iinc (lv2 := [some (rf 63), some (it v1), some (it v2), some (it (zw (v3 + 1)))]) (by decide +kernel : zi 57 69 = some (.iinc 3 1, 3)) (Nat.le_of_ble_eq_true rfl) rfl rfl ?_
  refine Fr.goto (q := 18) (by decide +kernel : zi 57 72 = some (.goto (-54), 3)) (by decide +kernel) ?_
  exact h
theorem f57_75 {xs : Nat → Int} {L : Nat} {d : Nat} {v1 : Int} {v2 : Int} {v3 : Int} {s : Pl} {P : Pl → Prop} (h : Fr xs L T0 104 d 57 2 [some (rf 63), some (it v1), some (it (zw (v2 + 1))), some (it v3)] [] s (qv P)) : Fr xs L T0 104 d 57 75 [some (rf 63), some (it v1), some (it v2), some (it v3)] [] s (qv P) := by
  refine Fr.iinc (lv2 := [some (rf 63), some (it v1), some (it (zw (v2 + 1))), some (it v3)]) (by decide +kernel : zi 57 75 = some (.iinc 2 1, 3)) (Nat.le_of_ble_eq_true rfl) rfl rfl ?_
  refine Fr.goto (q := 2) (by decide +kernel : zi 57 78 = some (.goto (-76), 3)) (by decide +kernel) ?_
  exact h
-- 58 X4_comeTo
theorem f58_0 {xs : Nat → Int} {L : Nat} {d : Nat} {v1 : Int} {v2 : Int} {s : Pl} {P : Pl → Prop} (h : ((¬ v2 = 1 → Fr xs L T0 104 d 58 68 [some (rf 63), some (it v1), some (it v2), some (it 0), none, none] [] s (qv P)) ∧ (¬ (¬ v2 = 1) → (0 ≤ zw (v1 - 1) ∧ zw (v1 - 1) < 402) ∧ Fr xs L T0 104 d 58 14 [some (rf 63), some (it v1), some (it v2), some (it (s 65 (zw (v1 - 1)))), none, none] [] s (qv P)))) : Fr xs L T0 104 d 58 0 [some (rf 63), some (it v1), some (it v2), none, none, none] [] s (qv P) := by
  refine Fr.ildn (by decide +kernel : zi 58 0 = some (.iload_n 2, 1)) rfl ?_
  refine Fr.iconst (by decide +kernel : zi 58 1 = some (.iconst 1, 1)) (by decide) ?_
  refine Fr.if2 (q := 66) (by decide +kernel : zi 58 2 = some (.if_icmp .ne 64, 3)) (by decide +kernel) (fun g9 => ?_) (fun g9 => ?_)
  · have h := h.1 g9
    refine Fr.iconst (by decide +kernel : zi 58 66 = some (.iconst 0, 1)) (by decide) ?_
    refine Fr.istn (lv2 := [some (rf 63), some (it v1), some (it v2), some (it 0), none, none]) (by decide +kernel : zi 58 67 = some (.istore_n 3, 1)) (Nat.le_of_ble_eq_true rfl) rfl ?_
    exact h
  · have h := h.2 g9
    refine Fr.aldn (c := 63) (by decide +kernel : zi 58 5 = some (.aload_n 0, 1)) rfl ⟨by omega, by omega⟩ ?_
    refine Fr.gR (c := 62) (c2 := 66) (ci := 4) (k := 3) 3 (by decide +kernel : zi 58 6 = some (.getfield 18, 3)) (by decide +kernel) (by decide +kernel) (by decide +kernel) (by decide) rfl (fun q => q (62, 3, 66) (by decide +kernel)) ?_
    refine Fr.ildn (by decide +kernel : zi 58 9 = some (.iload_n 1, 1)) rfl ?_
    refine Fr.iconst (by decide +kernel : zi 58 10 = some (.iconst 1, 1)) (by decide) ?_
    refine Fr.isub (by decide +kernel : zi 58 11 = some (.isub, 1)) ?_
    obtain ⟨⟨g0, g1⟩, h⟩ := h
    refine Fr.iald (c := 65) (N := 402) (by decide +kernel : zi 58 12 = some (.iaload, 1)) (by decide +kernel) (by decide) g0 g1 ?_
    refine Fr.istn (lv2 := [some (rf 63), some (it v1), some (it v2), some (it (s 65 (zw (v1 - 1)))), none, none]) (by decide +kernel : zi 58 13 = some (.istore_n 3, 1)) (Nat.le_of_ble_eq_true rfl) rfl ?_
    exact h
theorem e58 {xs : Nat → Int} {L : Nat} {d : Nat} {v1 : Int} {v2 : Int} {s : Pl} {Q : Option AV → Pl → Prop} (hd : 1 ≤ d) (k : Fr xs L T0 104 (d - 1) 58 0 [some (rf 63), some (it v1), some (it v2), none, none, none] [] s Q) : Ev xs L T0 104 d 58 [rf 63, it v1, it v2] s Q := Ev.of (by decide) _ rfl hd k
theorem f58_14 {xs : Nat → Int} {L : Nat} {d : Nat} {v1 : Int} {v2 : Int} {v3 : Int} {w4 : Option AV} {s : Pl} {P : Pl → Prop} (h : (0 ≤ v1 ∧ v1 < 402) ∧ ((s 65 v1 ≤ v3 → P s) ∧ (¬ (s 65 v1 ≤ v3) → ((1440 ≤ v3 → P s) ∧ (¬ (1440 ≤ v3) → (0 ≤ v3 ∧ v3 < 1440) ∧ Ev xs L T0 104 d 42 [rf 56, it (zand (s 64 v3) 65535)] s (qv fun s1 => Ev xs L T0 104 d 57 [rf 63, it (zand (s 64 v3) 65535)] s1 (qv fun s2 => Fr xs L T0 104 d 58 14 [some (rf 63), some (it v1), some (it v2), some (it (zw (v3 + 1))), some (it (zand (s 64 v3) 65535)), none] [] s2 (qv P)))))))) : Fr xs L T0 104 d 58 14 [some (rf 63), some (it v1), some (it v2), some (it v3), w4, none] [] s (qv P) := by
  refine Fr.ildn (by decide +kernel : zi 58 14 = some (.iload_n 3, 1)) rfl ?_
  refine Fr.aldn (c := 63) (by decide +kernel : zi 58 15 = some (.aload_n 0, 1)) rfl ⟨by omega, by omega⟩ ?_
  refine Fr.gR (c := 62) (c2 := 66) (ci := 4) (k := 3) 3 (by decide +kernel : zi 58 16 = some (.getfield 18, 3)) (by decide +kernel) (by decide +kernel) (by decide +kernel) (by decide) rfl (fun q => q (62, 3, 66) (by decide +kernel)) ?_
  refine Fr.ildn (by decide +kernel : zi 58 19 = some (.iload_n 1, 1)) rfl ?_
  obtain ⟨⟨g0, g1⟩, h⟩ := h
  refine Fr.iald (c := 65) (N := 402) (by decide +kernel : zi 58 20 = some (.iaload, 1)) (by decide +kernel) (by decide) g0 g1 ?_
  refine Fr.if2 (q := 65) (by decide +kernel : zi 58 21 = some (.if_icmp .ge 44, 3)) (by decide +kernel) (fun g9 => ?_) (fun g9 => ?_)
  · have h := h.1 g9
    exact Fr.retV (by decide +kernel : zi 58 65 = some (.return_, 1)) (by decide +kernel) h
  · have h := h.2 g9
    refine Fr.ildn (by decide +kernel : zi 58 24 = some (.iload_n 3, 1)) rfl ?_
    refine Fr.aldn (c := 63) (by decide +kernel : zi 58 25 = some (.aload_n 0, 1)) rfl ⟨by omega, by omega⟩ ?_
    refine Fr.gR (c := 62) (c2 := 65) (ci := 4) (k := 2) 2 (by decide +kernel : zi 58 26 = some (.getfield 15, 3)) (by decide +kernel) (by decide +kernel) (by decide +kernel) (by decide) rfl (fun q => q (62, 2, 65) (by decide +kernel)) ?_
    refine Fr.alen (c := 64) (N := 1440) (K := 20) (by decide +kernel : zi 58 29 = some (.arraylength, 1)) (by decide +kernel) (by decide) (by decide) ?_
    refine Fr.if2 (q := 65) (by decide +kernel : zi 58 30 = some (.if_icmp .ge 35, 3)) (by decide +kernel) (fun g9 => ?_) (fun g9 => ?_)
    · have h := h.1 g9
      exact Fr.retV (by decide +kernel : zi 58 65 = some (.return_, 1)) (by decide +kernel) h
    · have h := h.2 g9
      refine Fr.aldn (c := 63) (by decide +kernel : zi 58 33 = some (.aload_n 0, 1)) rfl ⟨by omega, by omega⟩ ?_
      refine Fr.gR (c := 62) (c2 := 65) (ci := 4) (k := 2) 2 (by decide +kernel : zi 58 34 = some (.getfield 15, 3)) (by decide +kernel) (by decide +kernel) (by decide +kernel) (by decide) rfl (fun q => q (62, 2, 65) (by decide +kernel)) ?_
      refine Fr.ildn (by decide +kernel : zi 58 37 = some (.iload_n 3, 1)) rfl ?_
      obtain ⟨⟨g0, g1⟩, h⟩ := h
      refine Fr.iald (c := 64) (N := 1440) (by decide +kernel : zi 58 38 = some (.iaload, 1)) (by decide +kernel) (by decide) g0 g1 ?_
      refine Fr.ldc (v := it 65535) (by decide +kernel : zi 58 39 = some (.ldc 90, 2)) (by decide +kernel) ?_
      refine Fr.iand (by decide +kernel : zi 58 41 = some (.iand, 1)) ?_
      refine Fr.ist (lv2 := [some (rf 63), some (it v1), some (it v2), some (it v3), some (it (zand (s 64 v3) 65535)), none]) (by decide +kernel : zi 58 42 = some (.istore 4, 2)) (Nat.le_of_ble_eq_true rfl) rfl ?_
      refine Fr.aldn (c := 63) (by decide +kernel : zi 58 44 = some (.aload_n 0, 1)) rfl ⟨by omega, by omega⟩ ?_
      refine Fr.gR (c := 62) (c2 := 56) (ci := 4) (k := 0) 0 (by decide +kernel : zi 58 45 = some (.getfield 21, 3)) (by decide +kernel) (by decide +kernel) (by decide +kernel) (by decide) rfl (fun q => q (62, 0, 56) (by decide +kernel)) ?_
      refine Fr.ild (by decide +kernel : zi 58 48 = some (.iload 4, 2)) rfl ?_
      refine Fr.callV (y2 := 42) (na := 2) (as := [rf 56, it (zand (s 64 v3) 65535)]) (rest := []) (by decide +kernel : zi 58 50 = some (.invokevirtual 52, 3)) rfl (by decide +kernel) (by decide +kernel) rfl rfl (zok_V rfl (by decide) (by decide +kernel) (by decide +kernel) (zrecv_c (c := 55) (by decide) (by decide +kernel)) rfl (Nat.le_of_ble_eq_true rfl)) h (fun s1 h => ?_)
      refine Fr.aldn (c := 63) (by decide +kernel : zi 58 53 = some (.aload_n 0, 1)) rfl ⟨by omega, by omega⟩ ?_
      refine Fr.ild (by decide +kernel : zi 58 54 = some (.iload 4, 2)) rfl ?_
      refine Fr.callV (y2 := 57) (na := 2) (as := [rf 63, it (zand (s 64 v3) 65535)]) (rest := []) (by decide +kernel : zi 58 56 = some (.invokevirtual 61, 3)) rfl (by decide +kernel) (by decide +kernel) rfl rfl (zok_V rfl (by decide) (by decide +kernel) (by decide +kernel) (zrecv_c (c := 62) (by decide) (by decide +kernel)) rfl (Nat.le_of_ble_eq_true rfl)) h (fun s2 h => ?_)
      refine Fr.iinc (lv2 := [some (rf 63), some (it v1), some (it v2), some (it (zw (v3 + 1))), some (it (zand (s 64 v3) 65535)), none]) (by decide +kernel : zi 58 59 = some (.iinc 3 1, 3)) (Nat.le_of_ble_eq_true rfl) rfl rfl ?_
      refine Fr.goto (q := 14) (by decide +kernel : zi 58 62 = some (.goto (-48), 3)) (by decide +kernel) ?_
      exact h
theorem f58_68 {xs : Nat → Int} {L : Nat} {d : Nat} {v1 : Int} {v2 : Int} {v3 : Int} {w4 : Option AV} {w5 : Option AV} {s : Pl} {P : Pl → Prop} (h : ((4 ≤ v3 → P s) ∧ (¬ (4 ≤ v3) → Fr xs L T0 104 d 58 76 [some (rf 63), some (it v1), some (it v2), some (it v3), some (it 0), w5] [] s (qv P)))) : Fr xs L T0 104 d 58 68 [some (rf 63), some (it v1), some (it v2), some (it v3), w4, w5] [] s (qv P) := by
  refine Fr.ildn (by decide +kernel : zi 58 68 = some (.iload_n 3, 1)) rfl ?_
  refine Fr.iconst (by decide +kernel : zi 58 69 = some (.iconst 4, 1)) (by decide) ?_
  refine Fr.if2 (q := 147) (by decide +kernel : zi 58 70 = some (.if_icmp .ge 77, 3)) (by decide +kernel) (fun g9 => ?_) (fun g9 => ?_)
  · have h := h.1 g9
    exact Fr.retV (by decide +kernel : zi 58 147 = some (.return_, 1)) (by decide +kernel) h
  · have h := h.2 g9
    refine Fr.iconst (by decide +kernel : zi 58 73 = some (.iconst 0, 1)) (by decide) ?_
    refine Fr.ist (lv2 := [some (rf 63), some (it v1), some (it v2), some (it v3), some (it 0), w5]) (by decide +kernel : zi 58 74 = some (.istore 4, 2)) (Nat.le_of_ble_eq_true rfl) rfl ?_
    exact h
theorem f58_76 {xs : Nat → Int} {L : Nat} {d : Nat} {v1 : Int} {v2 : Int} {v3 : Int} {v4 : Int} {w5 : Option AV} {s : Pl} {P : Pl → Prop} (h : ((4 ≤ v4 → Fr xs L T0 104 d 58 68 [some (rf 63), some (it v1), some (it v2), some (it (zw (v3 + 1))), some (it v4), w5] [] s (qv P)) ∧ (¬ (4 ≤ v4) → ((¬ v2 = 0 → Fr xs L T0 104 d 58 104 [some (rf 63), some (it v1), some (it v2), some (it v3), some (it v4), w5] [it 1] s (qv P)) ∧ (¬ (¬ v2 = 0) → (0 ≤ zw ((zw (4 * v3)) + v4) ∧ zw ((zw (4 * v3)) + v4) < 16) ∧ Fr xs L T0 104 d 58 104 [some (rf 63), some (it v1), some (it v2), some (it v3), some (it v4), w5] [it (s 57 (zw ((zw (4 * v3)) + v4)))] s (qv P)))))) : Fr xs L T0 104 d 58 76 [some (rf 63), some (it v1), some (it v2), some (it v3), some (it v4), w5] [] s (qv P) := by
  refine Fr.ild (by decide +kernel : zi 58 76 = some (.iload 4, 2)) rfl ?_
  refine Fr.iconst (by decide +kernel : zi 58 78 = some (.iconst 4, 1)) (by decide) ?_
  refine Fr.if2 (q := 141) (by decide +kernel : zi 58 79 = some (.if_icmp .ge 62, 3)) (by decide +kernel) (fun g9 => ?_) (fun g9 => ?_)
  · have h := h.1 g9
    refine Fr.iinc (lv2 := [some (rf 63), some (it v1), some (it v2), some (it (zw (v3 + 1))), some (it v4), w5]) (by decide +kernel : zi 58 141 = some (.iinc 3 1, 3)) (Nat.le_of_ble_eq_true rfl) rfl rfl ?_
    refine Fr.goto (q := 68) (by decide +kernel : zi 58 144 = some (.goto (-76), 3)) (by decide +kernel) ?_
    exact h
  · have h := h.2 g9
    refine Fr.ildn (by decide +kernel : zi 58 82 = some (.iload_n 2, 1)) rfl ?_
    refine Fr.if0 (q := 103) (by decide +kernel : zi 58 83 = some (.ifCond .ne 20, 3)) (by decide +kernel) (fun g9 => ?_) (fun g9 => ?_)
    · have h := h.1 g9
      refine Fr.iconst (by decide +kernel : zi 58 103 = some (.iconst 1, 1)) (by decide) ?_
      exact h
    · have h := h.2 g9
      refine Fr.aldn (c := 63) (by decide +kernel : zi 58 86 = some (.aload_n 0, 1)) rfl ⟨by omega, by omega⟩ ?_
      refine Fr.gR (c := 62) (c2 := 56) (ci := 4) (k := 0) 0 (by decide +kernel : zi 58 87 = some (.getfield 21, 3)) (by decide +kernel) (by decide +kernel) (by decide +kernel) (by decide) rfl (fun q => q (62, 0, 56) (by decide +kernel)) ?_
      refine Fr.gR (c := 55) (c2 := 58) (ci := 3) (k := 3) 3 (by decide +kernel : zi 58 90 = some (.getfield 91, 3)) (by decide +kernel) (by decide +kernel) (by decide +kernel) (by decide) rfl (fun q => q (55, 3, 58) (by decide +kernel)) ?_
      refine Fr.iconst (by decide +kernel : zi 58 93 = some (.iconst 4, 1)) (by decide) ?_
      refine Fr.ildn (by decide +kernel : zi 58 94 = some (.iload_n 3, 1)) rfl ?_
      refine Fr.imul (by decide +kernel : zi 58 95 = some (.imul, 1)) ?_
      refine Fr.ild (by decide +kernel : zi 58 96 = some (.iload 4, 2)) rfl ?_
      refine Fr.iadd (by decide +kernel : zi 58 98 = some (.iadd, 1)) ?_
      obtain ⟨⟨g0, g1⟩, h⟩ := h
      refine Fr.iald (c := 57) (N := 16) (by decide +kernel : zi 58 99 = some (.iaload, 1)) (by decide +kernel) (by decide) g0 g1 ?_
      refine Fr.goto (q := 104) (by decide +kernel : zi 58 100 = some (.goto 4, 3)) (by decide +kernel) ?_
      exact h
theorem f58_104 {xs : Nat → Int} {L : Nat} {d : Nat} {v1 : Int} {v2 : Int} {v3 : Int} {v4 : Int} {w5 : Option AV} {vs0 : Int} {s : Pl} {P : Pl → Prop} (h : ((v3 = v4 → Fr xs L T0 104 d 58 135 [some (rf 63), some (it v1), some (it v2), some (it v3), some (it v4), some (it vs0)] [] s (qv P)) ∧ (¬ (v3 = v4) → ((vs0 < 1 → Fr xs L T0 104 d 58 135 [some (rf 63), some (it v1), some (it v2), some (it v3), some (it v4), some (it vs0)] [] s (qv P)) ∧ (¬ (vs0 < 1) → ((v1 < vs0 → Fr xs L T0 104 d 58 135 [some (rf 63), some (it v1), some (it v2), some (it v3), some (it v4), some (it vs0)] [] s (qv P)) ∧ (¬ (v1 < vs0) → Ev xs L T0 104 d 59 [rf 63, it v3, it v4, it (zw (v1 - vs0))] s (qv fun s1 => Fr xs L T0 104 d 58 135 [some (rf 63), some (it v1), some (it v2), some (it v3), some (it v4), some (it vs0)] [] s1 (qv P))))))))) : Fr xs L T0 104 d 58 104 [some (rf 63), some (it v1), some (it v2), some (it v3), some (it v4), w5] [it vs0] s (qv P) := by
  refine Fr.ist (lv2 := [some (rf 63), some (it v1), some (it v2), some (it v3), some (it v4), some (it vs0)]) (by decide +kernel : zi 58 104 = some (.istore 5, 2)) (Nat.le_of_ble_eq_true rfl) rfl ?_
  refine Fr.ildn (by decide +kernel : zi 58 106 = some (.iload_n 3, 1)) rfl ?_
  refine Fr.ild (by decide +kernel : zi 58 107 = some (.iload 4, 2)) rfl ?_
  refine Fr.if2 (q := 135) (by decide +kernel : zi 58 109 = some (.if_icmp .eq 26, 3)) (by decide +kernel) (fun g9 => ?_) (fun g9 => ?_)
  · have h := h.1 g9
    exact h
  · have h := h.2 g9
    refine Fr.ild (by decide +kernel : zi 58 112 = some (.iload 5, 2)) rfl ?_
    refine Fr.iconst (by decide +kernel : zi 58 114 = some (.iconst 1, 1)) (by decide) ?_
    refine Fr.if2 (q := 135) (by decide +kernel : zi 58 115 = some (.if_icmp .lt 20, 3)) (by decide +kernel) (fun g9 => ?_) (fun g9 => ?_)
    · have h := h.1 g9
      exact h
    · have h := h.2 g9
      refine Fr.ild (by decide +kernel : zi 58 118 = some (.iload 5, 2)) rfl ?_
      refine Fr.ildn (by decide +kernel : zi 58 120 = some (.iload_n 1, 1)) rfl ?_
      refine Fr.if2 (q := 135) (by decide +kernel : zi 58 121 = some (.if_icmp .gt 14, 3)) (by decide +kernel) (fun g9 => ?_) (fun g9 => ?_)
      · have h := h.1 g9
        exact h
      · have h := h.2 g9
        refine Fr.aldn (c := 63) (by decide +kernel : zi 58 124 = some (.aload_n 0, 1)) rfl ⟨by omega, by omega⟩ ?_
        refine Fr.ildn (by decide +kernel : zi 58 125 = some (.iload_n 3, 1)) rfl ?_
        refine Fr.ild (by decide +kernel : zi 58 126 = some (.iload 4, 2)) rfl ?_
        refine Fr.ildn (by decide +kernel : zi 58 128 = some (.iload_n 1, 1)) rfl ?_
        refine Fr.ild (by decide +kernel : zi 58 129 = some (.iload 5, 2)) rfl ?_
        refine Fr.isub (by decide +kernel : zi 58 131 = some (.isub, 1)) ?_
        refine Fr.callV (y2 := 59) (na := 4) (as := [rf 63, it v3, it v4, it (zw (v1 - vs0))]) (rest := []) (by decide +kernel : zi 58 132 = some (.invokevirtual 94, 3)) rfl (by decide +kernel) (by decide +kernel) rfl rfl (zok_V rfl (by decide) (by decide +kernel) (by decide +kernel) (zrecv_c (c := 62) (by decide) (by decide +kernel)) rfl (Nat.le_of_ble_eq_true rfl)) h (fun s1 h => ?_)
        exact h
theorem f58_135 {xs : Nat → Int} {L : Nat} {d : Nat} {v1 : Int} {v2 : Int} {v3 : Int} {v4 : Int} {v5 : Int} {s : Pl} {P : Pl → Prop} (h : Fr xs L T0 104 d 58 76 [some (rf 63), some (it v1), some (it v2), some (it v3), some (it (zw (v4 + 1))), some (it v5)] [] s (qv P)) : Fr xs L T0 104 d 58 135 [some (rf 63), some (it v1), some (it v2), some (it v3), some (it v4), some (it v5)] [] s (qv P) := by
  refine Fr.iinc (lv2 := [some (rf 63), some (it v1), some (it v2), some (it v3), some (it (zw (v4 + 1))), some (it v5)]) (by decide +kernel : zi 58 135 = some (.iinc 4 1, 3)) (Nat.le_of_ble_eq_true rfl) rfl rfl ?_
  refine Fr.goto (q := 76) (by decide +kernel : zi 58 138 = some (.goto (-62), 3)) (by decide +kernel) ?_
  exact h
-- 59 X4_addRowedFrom
theorem f59_0 {xs : Nat → Int} {L : Nat} {d : Nat} {v1 : Int} {v2 : Int} {v3 : Int} {s : Pl} {P : Pl → Prop} (h : ((v3 < 0 → P s) ∧ (¬ (v3 < 0) → ((zw (v3 + 1) < 402 → (0 ≤ v3 ∧ v3 < 402) ∧ Fr xs L T0 104 d 59 24 [some (rf 63), some (it v1), some (it v2), some (it v3), some (it (s 65 v3)), none] [] s (qv P)) ∧ (¬ (zw (v3 + 1) < 402) → P s))))) : Fr xs L T0 104 d 59 0 [some (rf 63), some (it v1), some (it v2), some (it v3), none, none] [] s (qv P) := by
  refine Fr.ildn (by decide +kernel : zi 59 0 = some (.iload_n 3, 1)) rfl ?_
  refine Fr.if0 (q := 15) (by decide +kernel : zi 59 1 = some (.ifCond .lt 14, 3)) (by decide +kernel) (fun g9 => ?_) (fun g9 => ?_)
  · have h := h.1 g9
    exact Fr.retV (by decide +kernel : zi 59 15 = some (.return_, 1)) (by decide +kernel) h
  · have h := h.2 g9
    refine Fr.ildn (by decide +kernel : zi 59 4 = some (.iload_n 3, 1)) rfl ?_
    refine Fr.iconst (by decide +kernel : zi 59 5 = some (.iconst 1, 1)) (by decide) ?_
    refine Fr.iadd (by decide +kernel : zi 59 6 = some (.iadd, 1)) ?_
    refine Fr.aldn (c := 63) (by decide +kernel : zi 59 7 = some (.aload_n 0, 1)) rfl ⟨by omega, by omega⟩ ?_
    refine Fr.gR (c := 62) (c2 := 66) (ci := 4) (k := 3) 3 (by decide +kernel : zi 59 8 = some (.getfield 18, 3)) (by decide +kernel) (by decide +kernel) (by decide +kernel) (by decide) rfl (fun q => q (62, 3, 66) (by decide +kernel)) ?_
    refine Fr.alen (c := 65) (N := 402) (K := 20) (by decide +kernel : zi 59 11 = some (.arraylength, 1)) (by decide +kernel) (by decide) (by decide) ?_
    refine Fr.if2 (q := 16) (by decide +kernel : zi 59 12 = some (.if_icmp .lt 4, 3)) (by decide +kernel) (fun g9 => ?_) (fun g9 => ?_)
    · have h := h.1 g9
      refine Fr.aldn (c := 63) (by decide +kernel : zi 59 16 = some (.aload_n 0, 1)) rfl ⟨by omega, by omega⟩ ?_
      refine Fr.gR (c := 62) (c2 := 66) (ci := 4) (k := 3) 3 (by decide +kernel : zi 59 17 = some (.getfield 18, 3)) (by decide +kernel) (by decide +kernel) (by decide +kernel) (by decide) rfl (fun q => q (62, 3, 66) (by decide +kernel)) ?_
      refine Fr.ildn (by decide +kernel : zi 59 20 = some (.iload_n 3, 1)) rfl ?_
      obtain ⟨⟨g0, g1⟩, h⟩ := h
      refine Fr.iald (c := 65) (N := 402) (by decide +kernel : zi 59 21 = some (.iaload, 1)) (by decide +kernel) (by decide) g0 g1 ?_
      refine Fr.ist (lv2 := [some (rf 63), some (it v1), some (it v2), some (it v3), some (it (s 65 v3)), none]) (by decide +kernel : zi 59 22 = some (.istore 4, 2)) (Nat.le_of_ble_eq_true rfl) rfl ?_
      exact h
    · have h := h.2 g9
      exact Fr.retV (by decide +kernel : zi 59 15 = some (.return_, 1)) (by decide +kernel) h
theorem e59 {xs : Nat → Int} {L : Nat} {d : Nat} {v1 : Int} {v2 : Int} {v3 : Int} {s : Pl} {Q : Option AV → Pl → Prop} (hd : 1 ≤ d) (k : Fr xs L T0 104 (d - 1) 59 0 [some (rf 63), some (it v1), some (it v2), some (it v3), none, none] [] s Q) : Ev xs L T0 104 d 59 [rf 63, it v1, it v2, it v3] s Q := Ev.of (by decide) _ rfl hd k
theorem f59_24 {xs : Nat → Int} {L : Nat} {d : Nat} {v1 : Int} {v2 : Int} {v3 : Int} {v4 : Int} {w5 : Option AV} {s : Pl} {P : Pl → Prop} (h : (0 ≤ zw (v3 + 1) ∧ zw (v3 + 1) < 402) ∧ ((s 65 (zw (v3 + 1)) ≤ v4 → P s) ∧ (¬ (s 65 (zw (v3 + 1)) ≤ v4) → ((1440 ≤ v4 → P s) ∧ (¬ (1440 ≤ v4) → (0 ≤ v4 ∧ v4 < 1440) ∧ ((¬ zand (zand (s 64 v4) 65535) 3 = v1 → Fr xs L T0 104 d 59 77 [some (rf 63), some (it v1), some (it v2), some (it v3), some (it v4), some (it (zand (s 64 v4) 65535))] [] s (qv P)) ∧ (¬ (¬ zand (zand (s 64 v4) 65535) 3 = v1) → Ev xs L T0 104 d 55 [rf 63, it (zw ((zw ((zand (s 64 v4) 65535) - v1)) + v2))] s (qv fun s1 => Fr xs L T0 104 d 59 77 [some (rf 63), some (it v1), some (it v2), some (it v3), some (it v4), some (it (zand (s 64 v4) 65535))] [] s1 (qv P))))))))) : Fr xs L T0 104 d 59 24 [some (rf 63), some (it v1), some (it v2), some (it v3), some (it v4), w5] [] s (qv P) := by
  refine Fr.ild (by decide +kernel : zi 59 24 = some (.iload 4, 2)) rfl ?_
  refine Fr.aldn (c := 63) (by decide +kernel : zi 59 26 = some (.aload_n 0, 1)) rfl ⟨by omega, by omega⟩ ?_
  refine Fr.gR (c := 62) (c2 := 66) (ci := 4) (k := 3) 3 (by decide +kernel : zi 59 27 = some (.getfield 18, 3)) (by decide +kernel) (by decide +kernel) (by decide +kernel) (by decide) rfl (fun q => q (62, 3, 66) (by decide +kernel)) ?_
  refine Fr.ildn (by decide +kernel : zi 59 30 = some (.iload_n 3, 1)) rfl ?_
  refine Fr.iconst (by decide +kernel : zi 59 31 = some (.iconst 1, 1)) (by decide) ?_
  refine Fr.iadd (by decide +kernel : zi 59 32 = some (.iadd, 1)) ?_
  obtain ⟨⟨g0, g1⟩, h⟩ := h
  refine Fr.iald (c := 65) (N := 402) (by decide +kernel : zi 59 33 = some (.iaload, 1)) (by decide +kernel) (by decide) g0 g1 ?_
  refine Fr.if2 (q := 83) (by decide +kernel : zi 59 34 = some (.if_icmp .ge 49, 3)) (by decide +kernel) (fun g9 => ?_) (fun g9 => ?_)
  · have h := h.1 g9
    exact Fr.retV (by decide +kernel : zi 59 83 = some (.return_, 1)) (by decide +kernel) h
  · have h := h.2 g9
    refine Fr.ild (by decide +kernel : zi 59 37 = some (.iload 4, 2)) rfl ?_
    refine Fr.aldn (c := 63) (by decide +kernel : zi 59 39 = some (.aload_n 0, 1)) rfl ⟨by omega, by omega⟩ ?_
    refine Fr.gR (c := 62) (c2 := 65) (ci := 4) (k := 2) 2 (by decide +kernel : zi 59 40 = some (.getfield 15, 3)) (by decide +kernel) (by decide +kernel) (by decide +kernel) (by decide) rfl (fun q => q (62, 2, 65) (by decide +kernel)) ?_
    refine Fr.alen (c := 64) (N := 1440) (K := 20) (by decide +kernel : zi 59 43 = some (.arraylength, 1)) (by decide +kernel) (by decide) (by decide) ?_
    refine Fr.if2 (q := 83) (by decide +kernel : zi 59 44 = some (.if_icmp .ge 39, 3)) (by decide +kernel) (fun g9 => ?_) (fun g9 => ?_)
    · have h := h.1 g9
      exact Fr.retV (by decide +kernel : zi 59 83 = some (.return_, 1)) (by decide +kernel) h
    · have h := h.2 g9
      refine Fr.aldn (c := 63) (by decide +kernel : zi 59 47 = some (.aload_n 0, 1)) rfl ⟨by omega, by omega⟩ ?_
      refine Fr.gR (c := 62) (c2 := 65) (ci := 4) (k := 2) 2 (by decide +kernel : zi 59 48 = some (.getfield 15, 3)) (by decide +kernel) (by decide +kernel) (by decide +kernel) (by decide) rfl (fun q => q (62, 2, 65) (by decide +kernel)) ?_
      refine Fr.ild (by decide +kernel : zi 59 51 = some (.iload 4, 2)) rfl ?_
      obtain ⟨⟨g0, g1⟩, h⟩ := h
      refine Fr.iald (c := 64) (N := 1440) (by decide +kernel : zi 59 53 = some (.iaload, 1)) (by decide +kernel) (by decide) g0 g1 ?_
      refine Fr.ldc (v := it 65535) (by decide +kernel : zi 59 54 = some (.ldc 90, 2)) (by decide +kernel) ?_
      refine Fr.iand (by decide +kernel : zi 59 56 = some (.iand, 1)) ?_
      refine Fr.ist (lv2 := [some (rf 63), some (it v1), some (it v2), some (it v3), some (it v4), some (it (zand (s 64 v4) 65535))]) (by decide +kernel : zi 59 57 = some (.istore 5, 2)) (Nat.le_of_ble_eq_true rfl) rfl ?_
      refine Fr.ild (by decide +kernel : zi 59 59 = some (.iload 5, 2)) rfl ?_
      refine Fr.iconst (by decide +kernel : zi 59 61 = some (.iconst 3, 1)) (by decide) ?_
      refine Fr.iand (by decide +kernel : zi 59 62 = some (.iand, 1)) ?_
      refine Fr.ildn (by decide +kernel : zi 59 63 = some (.iload_n 1, 1)) rfl ?_
      refine Fr.if2 (q := 77) (by decide +kernel : zi 59 64 = some (.if_icmp .ne 13, 3)) (by decide +kernel) (fun g9 => ?_) (fun g9 => ?_)
      · have h := h.1 g9
        exact h
      · have h := h.2 g9
        refine Fr.aldn (c := 63) (by decide +kernel : zi 59 67 = some (.aload_n 0, 1)) rfl ⟨by omega, by omega⟩ ?_
        refine Fr.ild (by decide +kernel : zi 59 68 = some (.iload 5, 2)) rfl ?_
        refine Fr.ildn (by decide +kernel : zi 59 70 = some (.iload_n 1, 1)) rfl ?_
        refine Fr.isub (by decide +kernel : zi 59 71 = some (.isub, 1)) ?_
        refine Fr.ildn (by decide +kernel : zi 59 72 = some (.iload_n 2, 1)) rfl ?_
        refine Fr.iadd (by decide +kernel : zi 59 73 = some (.iadd, 1)) ?_
        refine Fr.callV (y2 := 55) (na := 2) (as := [rf 63, it (zw ((zw ((zand (s 64 v4) 65535) - v1)) + v2))]) (rest := []) (by decide +kernel : zi 59 74 = some (.invokevirtual 44, 3)) rfl (by decide +kernel) (by decide +kernel) rfl rfl (zok_V rfl (by decide) (by decide +kernel) (by decide +kernel) (zrecv_c (c := 62) (by decide) (by decide +kernel)) rfl (Nat.le_of_ble_eq_true rfl)) h (fun s1 h => ?_)
        exact h
theorem f59_77 {xs : Nat → Int} {L : Nat} {d : Nat} {v1 : Int} {v2 : Int} {v3 : Int} {v4 : Int} {v5 : Int} {s : Pl} {P : Pl → Prop} (h : Fr xs L T0 104 d 59 24 [some (rf 63), some (it v1), some (it v2), some (it v3), some (it (zw (v4 + 1))), some (it v5)] [] s (qv P)) : Fr xs L T0 104 d 59 77 [some (rf 63), some (it v1), some (it v2), some (it v3), some (it v4), some (it v5)] [] s (qv P) := by
  refine Fr.iinc (lv2 := [some (rf 63), some (it v1), some (it v2), some (it v3), some (it (zw (v4 + 1))), some (it v5)]) (by decide +kernel : zi 59 77 = some (.iinc 4 1, 3)) (Nat.le_of_ble_eq_true rfl) rfl rfl ?_
  refine Fr.goto (q := 24) (by decide +kernel : zi 59 80 = some (.goto (-56), 3)) (by decide +kernel) ?_
  exact h
-- 60 X4_least
theorem f60_0 {xs : Nat → Int} {L : Nat} {d : Nat} {v1 : Int} {s : Pl} {P : Int → Pl → Prop} (h : Fr xs L T0 104 d 60 2 [some (rf 63), some (it v1), some (it 0), none] [] s (qi P)) : Fr xs L T0 104 d 60 0 [some (rf 63), some (it v1), none, none] [] s (qi P) := by
  refine Fr.iconst (by decide +kernel : zi 60 0 = some (.iconst 0, 1)) (by decide) ?_
  refine Fr.istn (lv2 := [some (rf 63), some (it v1), some (it 0), none]) (by decide +kernel : zi 60 1 = some (.istore_n 2, 1)) (Nat.le_of_ble_eq_true rfl) rfl ?_
  exact h
theorem e60 {xs : Nat → Int} {L : Nat} {d : Nat} {v1 : Int} {s : Pl} {Q : Option AV → Pl → Prop} (hd : 1 ≤ d) (k : Fr xs L T0 104 (d - 1) 60 0 [some (rf 63), some (it v1), none, none] [] s Q) : Ev xs L T0 104 d 60 [rf 63, it v1] s Q := Ev.of (by decide) _ rfl hd k
theorem f60_2 {xs : Nat → Int} {L : Nat} {d : Nat} {v1 : Int} {v2 : Int} {w3 : Option AV} {s : Pl} {P : Int → Pl → Prop} (h : ((s 62 5 ≤ v2 → P (-1) s) ∧ (¬ (s 62 5 ≤ v2) → ((402 ≤ zw (v2 + 1) → P (-1) s) ∧ (¬ (402 ≤ zw (v2 + 1)) → (0 ≤ v2 ∧ v2 < 402) ∧ Fr xs L T0 104 d 60 28 [some (rf 63), some (it v1), some (it v2), some (it (s 65 v2))] [] s (qi P)))))) : Fr xs L T0 104 d 60 2 [some (rf 63), some (it v1), some (it v2), w3] [] s (qi P) := by
  refine Fr.ildn (by decide +kernel : zi 60 2 = some (.iload_n 2, 1)) rfl ?_
  refine Fr.aldn (c := 63) (by decide +kernel : zi 60 3 = some (.aload_n 0, 1)) rfl ⟨by omega, by omega⟩ ?_
  refine Fr.gI (c := 62) (ci := 4) (k := 5) (t := 0) 5 (by decide +kernel : zi 60 4 = some (.getfield 35, 3)) (by decide +kernel) (by decide +kernel) (by decide +kernel) (by decide) rfl ?_
  refine Fr.if2 (q := 78) (by decide +kernel : zi 60 7 = some (.if_icmp .ge 71, 3)) (by decide +kernel) (fun g9 => ?_) (fun g9 => ?_)
  · have h := h.1 g9
    refine Fr.iconst (by decide +kernel : zi 60 78 = some (.iconst (-1), 1)) (by decide) ?_
    exact Fr.retI (by decide +kernel : zi 60 79 = some (.ireturn, 1)) (by decide +kernel) h
  · have h := h.2 g9
    refine Fr.ildn (by decide +kernel : zi 60 10 = some (.iload_n 2, 1)) rfl ?_
    refine Fr.iconst (by decide +kernel : zi 60 11 = some (.iconst 1, 1)) (by decide) ?_
    refine Fr.iadd (by decide +kernel : zi 60 12 = some (.iadd, 1)) ?_
    refine Fr.aldn (c := 63) (by decide +kernel : zi 60 13 = some (.aload_n 0, 1)) rfl ⟨by omega, by omega⟩ ?_
    refine Fr.gR (c := 62) (c2 := 66) (ci := 4) (k := 3) 3 (by decide +kernel : zi 60 14 = some (.getfield 18, 3)) (by decide +kernel) (by decide +kernel) (by decide +kernel) (by decide) rfl (fun q => q (62, 3, 66) (by decide +kernel)) ?_
    refine Fr.alen (c := 65) (N := 402) (K := 20) (by decide +kernel : zi 60 17 = some (.arraylength, 1)) (by decide +kernel) (by decide) (by decide) ?_
    refine Fr.if2 (q := 78) (by decide +kernel : zi 60 18 = some (.if_icmp .ge 60, 3)) (by decide +kernel) (fun g9 => ?_) (fun g9 => ?_)
    · have h := h.1 g9
      refine Fr.iconst (by decide +kernel : zi 60 78 = some (.iconst (-1), 1)) (by decide) ?_
      exact Fr.retI (by decide +kernel : zi 60 79 = some (.ireturn, 1)) (by decide +kernel) h
    · have h := h.2 g9
      refine Fr.aldn (c := 63) (by decide +kernel : zi 60 21 = some (.aload_n 0, 1)) rfl ⟨by omega, by omega⟩ ?_
      refine Fr.gR (c := 62) (c2 := 66) (ci := 4) (k := 3) 3 (by decide +kernel : zi 60 22 = some (.getfield 18, 3)) (by decide +kernel) (by decide +kernel) (by decide +kernel) (by decide) rfl (fun q => q (62, 3, 66) (by decide +kernel)) ?_
      refine Fr.ildn (by decide +kernel : zi 60 25 = some (.iload_n 2, 1)) rfl ?_
      obtain ⟨⟨g0, g1⟩, h⟩ := h
      refine Fr.iald (c := 65) (N := 402) (by decide +kernel : zi 60 26 = some (.iaload, 1)) (by decide +kernel) (by decide) g0 g1 ?_
      refine Fr.istn (lv2 := [some (rf 63), some (it v1), some (it v2), some (it (s 65 v2))]) (by decide +kernel : zi 60 27 = some (.istore_n 3, 1)) (Nat.le_of_ble_eq_true rfl) rfl ?_
      exact h
theorem f60_28 {xs : Nat → Int} {L : Nat} {d : Nat} {v1 : Int} {v2 : Int} {v3 : Int} {s : Pl} {P : Int → Pl → Prop} (h : (0 ≤ zw (v2 + 1) ∧ zw (v2 + 1) < 402) ∧ ((s 65 (zw (v2 + 1)) ≤ v3 → Fr xs L T0 104 d 60 72 [some (rf 63), some (it v1), some (it v2), some (it v3)] [] s (qi P)) ∧ (¬ (s 65 (zw (v2 + 1)) ≤ v3) → ((1440 ≤ v3 → Fr xs L T0 104 d 60 72 [some (rf 63), some (it v1), some (it v2), some (it v3)] [] s (qi P)) ∧ (¬ (1440 ≤ v3) → (0 ≤ v3 ∧ v3 < 1440) ∧ ((¬ zand (zshr (s 64 v3) 16) v1 = v1 → Fr xs L T0 104 d 60 28 [some (rf 63), some (it v1), some (it v2), some (it (zw (v3 + 1)))] [] s (qi P)) ∧ (¬ (¬ zand (zshr (s 64 v3) 16) v1 = v1) → P v2 s))))))) : Fr xs L T0 104 d 60 28 [some (rf 63), some (it v1), some (it v2), some (it v3)] [] s (qi P) := by
  refine Fr.ildn (by decide +kernel : zi 60 28 = some (.iload_n 3, 1)) rfl ?_
  refine Fr.aldn (c := 63) (by decide +kernel : zi 60 29 = some (.aload_n 0, 1)) rfl ⟨by omega, by omega⟩ ?_
  refine Fr.gR (c := 62) (c2 := 66) (ci := 4) (k := 3) 3 (by decide +kernel : zi 60 30 = some (.getfield 18, 3)) (by decide +kernel) (by decide +kernel) (by decide +kernel) (by decide) rfl (fun q => q (62, 3, 66) (by decide +kernel)) ?_
  refine Fr.ildn (by decide +kernel : zi 60 33 = some (.iload_n 2, 1)) rfl ?_
  refine Fr.iconst (by decide +kernel : zi 60 34 = some (.iconst 1, 1)) (by decide) ?_
  refine Fr.iadd (by decide +kernel : zi 60 35 = some (.iadd, 1)) ?_
  obtain ⟨⟨g0, g1⟩, h⟩ := h
  refine Fr.iald (c := 65) (N := 402) (by decide +kernel : zi 60 36 = some (.iaload, 1)) (by decide +kernel) (by decide) g0 g1 ?_
  refine Fr.if2 (q := 72) (by decide +kernel : zi 60 37 = some (.if_icmp .ge 35, 3)) (by decide +kernel) (fun g9 => ?_) (fun g9 => ?_)
  · have h := h.1 g9
    exact h
  · have h := h.2 g9
    refine Fr.ildn (by decide +kernel : zi 60 40 = some (.iload_n 3, 1)) rfl ?_
    refine Fr.aldn (c := 63) (by decide +kernel : zi 60 41 = some (.aload_n 0, 1)) rfl ⟨by omega, by omega⟩ ?_
    refine Fr.gR (c := 62) (c2 := 65) (ci := 4) (k := 2) 2 (by decide +kernel : zi 60 42 = some (.getfield 15, 3)) (by decide +kernel) (by decide +kernel) (by decide +kernel) (by decide) rfl (fun q => q (62, 2, 65) (by decide +kernel)) ?_
    refine Fr.alen (c := 64) (N := 1440) (K := 20) (by decide +kernel : zi 60 45 = some (.arraylength, 1)) (by decide +kernel) (by decide) (by decide) ?_
    refine Fr.if2 (q := 72) (by decide +kernel : zi 60 46 = some (.if_icmp .ge 26, 3)) (by decide +kernel) (fun g9 => ?_) (fun g9 => ?_)
    · have h := h.1 g9
      exact h
    · have h := h.2 g9
      refine Fr.aldn (c := 63) (by decide +kernel : zi 60 49 = some (.aload_n 0, 1)) rfl ⟨by omega, by omega⟩ ?_
      refine Fr.gR (c := 62) (c2 := 65) (ci := 4) (k := 2) 2 (by decide +kernel : zi 60 50 = some (.getfield 15, 3)) (by decide +kernel) (by decide +kernel) (by decide +kernel) (by decide) rfl (fun q => q (62, 2, 65) (by decide +kernel)) ?_
      refine Fr.ildn (by decide +kernel : zi 60 53 = some (.iload_n 3, 1)) rfl ?_
      obtain ⟨⟨g0, g1⟩, h⟩ := h
      refine Fr.iald (c := 64) (N := 1440) (by decide +kernel : zi 60 54 = some (.iaload, 1)) (by decide +kernel) (by decide) g0 g1 ?_
      refine Fr.bipush (by decide +kernel : zi 60 55 = some (.bipush 16, 2)) (by decide) ?_
      refine Fr.ishr (by decide +kernel : zi 60 57 = some (.ishr, 1)) ?_
      refine Fr.ildn (by decide +kernel : zi 60 58 = some (.iload_n 1, 1)) rfl ?_
      refine Fr.iand (by decide +kernel : zi 60 59 = some (.iand, 1)) ?_
      refine Fr.ildn (by decide +kernel : zi 60 60 = some (.iload_n 1, 1)) rfl ?_
      refine Fr.if2 (q := 66) (by decide +kernel : zi 60 61 = some (.if_icmp .ne 5, 3)) (by decide +kernel) (fun g9 => ?_) (fun g9 => ?_)
      · have h := h.1 g9
        refine Fr.iinc (lv2 := [some (rf 63), some (it v1), some (it v2), some (it (zw (v3 + 1)))]) (by decide +kernel : zi 60 66 = some (.iinc 3 1, 3)) (Nat.le_of_ble_eq_true rfl) rfl rfl ?_
        refine Fr.goto (q := 28) (by decide +kernel : zi 60 69 = some (.goto (-41), 3)) (by decide +kernel) ?_
        exact h
      · have h := h.2 g9
        refine Fr.ildn (by decide +kernel : zi 60 64 = some (.iload_n 2, 1)) rfl ?_
        exact Fr.retI (by decide +kernel : zi 60 65 = some (.ireturn, 1)) (by decide +kernel) h
theorem f60_72 {xs : Nat → Int} {L : Nat} {d : Nat} {v1 : Int} {v2 : Int} {v3 : Int} {s : Pl} {P : Int → Pl → Prop} (h : Fr xs L T0 104 d 60 2 [some (rf 63), some (it v1), some (it (zw (v2 + 1))), some (it v3)] [] s (qi P)) : Fr xs L T0 104 d 60 72 [some (rf 63), some (it v1), some (it v2), some (it v3)] [] s (qi P) := by
  refine Fr.iinc (lv2 := [some (rf 63), some (it v1), some (it (zw (v2 + 1))), some (it v3)]) (by decide +kernel : zi 60 72 = some (.iinc 2 1, 3)) (Nat.le_of_ble_eq_true rfl) rfl rfl ?_
  refine Fr.goto (q := 2) (by decide +kernel : zi 60 75 = some (.goto (-73), 3)) (by decide +kernel) ?_
  exact h
-- 61 X4_leastForAll
theorem f61_0 {xs : Nat → Int} {L : Nat} {d : Nat}  {s : Pl} {P : Int → Pl → Prop} (h : Ev xs L T0 104 d 40 [rf 56] s (qi fun r2 s1 => Ev xs L T0 104 d 60 [rf 63, it r2] s1 (qi fun r4 s3 => P r4 s3))) : Fr xs L T0 104 d 61 0 [some (rf 63)] [] s (qi P) := by
  refine Fr.aldn (c := 63) (by decide +kernel : zi 61 0 = some (.aload_n 0, 1)) rfl ⟨by omega, by omega⟩ ?_
  refine Fr.aldn (c := 63) (by decide +kernel : zi 61 1 = some (.aload_n 0, 1)) rfl ⟨by omega, by omega⟩ ?_
  refine Fr.gR (c := 62) (c2 := 56) (ci := 4) (k := 0) 0 (by decide +kernel : zi 61 2 = some (.getfield 21, 3)) (by decide +kernel) (by decide +kernel) (by decide +kernel) (by decide) rfl (fun q => q (62, 0, 56) (by decide +kernel)) ?_
  refine Fr.callI (y2 := 40) (na := 1) (as := [rf 56]) (rest := [rf 63]) (by decide +kernel : zi 61 5 = some (.invokevirtual 98, 3)) rfl (by decide +kernel) (by decide +kernel) rfl rfl (zok_V rfl (by decide) (by decide +kernel) (by decide +kernel) (zrecv_c (c := 55) (by decide) (by decide +kernel)) rfl (Nat.le_of_ble_eq_true rfl)) h (fun r2 s1 h => ?_)
  refine Fr.callI (y2 := 60) (na := 2) (as := [rf 63, it r2]) (rest := []) (by decide +kernel : zi 61 8 = some (.invokevirtual 101, 3)) rfl (by decide +kernel) (by decide +kernel) rfl rfl (zok_V rfl (by decide) (by decide +kernel) (by decide +kernel) (zrecv_c (c := 62) (by decide) (by decide +kernel)) rfl (Nat.le_of_ble_eq_true rfl)) h (fun r4 s3 h => ?_)
  exact Fr.retI (by decide +kernel : zi 61 11 = some (.ireturn, 1)) (by decide +kernel) h
theorem e61 {xs : Nat → Int} {L : Nat} {d : Nat}  {s : Pl} {Q : Option AV → Pl → Prop} (hd : 1 ≤ d) (k : Fr xs L T0 104 (d - 1) 61 0 [some (rf 63)] [] s Q) : Ev xs L T0 104 d 61 [rf 63] s Q := Ev.of (by decide) _ rfl hd k
-- 62 X4_everAtTo
theorem f62_0 {xs : Nat → Int} {L : Nat} {d : Nat}  {s : Pl} {P : Int → Pl → Prop} (h : Fr xs L T0 104 d 62 4 [some (rf 63), some (it 0), some (it 0)] [] s (qi P)) : Fr xs L T0 104 d 62 0 [some (rf 63), none, none] [] s (qi P) := by
  refine Fr.iconst (by decide +kernel : zi 62 0 = some (.iconst 0, 1)) (by decide) ?_
  refine Fr.istn (lv2 := [some (rf 63), some (it 0), none]) (by decide +kernel : zi 62 1 = some (.istore_n 1, 1)) (Nat.le_of_ble_eq_true rfl) rfl ?_
  refine Fr.iconst (by decide +kernel : zi 62 2 = some (.iconst 0, 1)) (by decide) ?_
  refine Fr.istn (lv2 := [some (rf 63), some (it 0), some (it 0)]) (by decide +kernel : zi 62 3 = some (.istore_n 2, 1)) (Nat.le_of_ble_eq_true rfl) rfl ?_
  exact h
theorem e62 {xs : Nat → Int} {L : Nat} {d : Nat}  {s : Pl} {Q : Option AV → Pl → Prop} (hd : 1 ≤ d) (k : Fr xs L T0 104 (d - 1) 62 0 [some (rf 63), none, none] [] s Q) : Ev xs L T0 104 d 62 [rf 63] s Q := Ev.of (by decide) _ rfl hd k
theorem f62_4 {xs : Nat → Int} {L : Nat} {d : Nat} {v1 : Int} {v2 : Int} {s : Pl} {P : Int → Pl → Prop} (h : ((s 62 4 ≤ v2 → P v1 s) ∧ (¬ (s 62 4 ≤ v2) → ((1440 ≤ v2 → P v1 s) ∧ (¬ (1440 ≤ v2) → (0 ≤ v2 ∧ v2 < 1440) ∧ Fr xs L T0 104 d 62 4 [some (rf 63), some (it (zor v1 (zshr (s 64 v2) 16))), some (it (zw (v2 + 1)))] [] s (qi P)))))) : Fr xs L T0 104 d 62 4 [some (rf 63), some (it v1), some (it v2)] [] s (qi P) := by
  refine Fr.ildn (by decide +kernel : zi 62 4 = some (.iload_n 2, 1)) rfl ?_
  refine Fr.aldn (c := 63) (by decide +kernel : zi 62 5 = some (.aload_n 0, 1)) rfl ⟨by omega, by omega⟩ ?_
  refine Fr.gI (c := 62) (ci := 4) (k := 4) (t := 0) 4 (by decide +kernel : zi 62 6 = some (.getfield 31, 3)) (by decide +kernel) (by decide +kernel) (by decide +kernel) (by decide) rfl ?_
  refine Fr.if2 (q := 39) (by decide +kernel : zi 62 9 = some (.if_icmp .ge 30, 3)) (by decide +kernel) (fun g9 => ?_) (fun g9 => ?_)
  · have h := h.1 g9
    refine Fr.ildn (by decide +kernel : zi 62 39 = some (.iload_n 1, 1)) rfl ?_
    exact Fr.retI (by decide +kernel : zi 62 40 = some (.ireturn, 1)) (by decide +kernel) h
  · have h := h.2 g9
    refine Fr.ildn (by decide +kernel : zi 62 12 = some (.iload_n 2, 1)) rfl ?_
    refine Fr.aldn (c := 63) (by decide +kernel : zi 62 13 = some (.aload_n 0, 1)) rfl ⟨by omega, by omega⟩ ?_
    refine Fr.gR (c := 62) (c2 := 65) (ci := 4) (k := 2) 2 (by decide +kernel : zi 62 14 = some (.getfield 15, 3)) (by decide +kernel) (by decide +kernel) (by decide +kernel) (by decide) rfl (fun q => q (62, 2, 65) (by decide +kernel)) ?_
    refine Fr.alen (c := 64) (N := 1440) (K := 20) (by decide +kernel : zi 62 17 = some (.arraylength, 1)) (by decide +kernel) (by decide) (by decide) ?_
    refine Fr.if2 (q := 39) (by decide +kernel : zi 62 18 = some (.if_icmp .ge 21, 3)) (by decide +kernel) (fun g9 => ?_) (fun g9 => ?_)
    · have h := h.1 g9
      refine Fr.ildn (by decide +kernel : zi 62 39 = some (.iload_n 1, 1)) rfl ?_
      exact Fr.retI (by decide +kernel : zi 62 40 = some (.ireturn, 1)) (by decide +kernel) h
    · have h := h.2 g9
      refine Fr.ildn (by decide +kernel : zi 62 21 = some (.iload_n 1, 1)) rfl ?_
      refine Fr.aldn (c := 63) (by decide +kernel : zi 62 22 = some (.aload_n 0, 1)) rfl ⟨by omega, by omega⟩ ?_
      refine Fr.gR (c := 62) (c2 := 65) (ci := 4) (k := 2) 2 (by decide +kernel : zi 62 23 = some (.getfield 15, 3)) (by decide +kernel) (by decide +kernel) (by decide +kernel) (by decide) rfl (fun q => q (62, 2, 65) (by decide +kernel)) ?_
      refine Fr.ildn (by decide +kernel : zi 62 26 = some (.iload_n 2, 1)) rfl ?_
      obtain ⟨⟨g0, g1⟩, h⟩ := h
      refine Fr.iald (c := 64) (N := 1440) (by decide +kernel : zi 62 27 = some (.iaload, 1)) (by decide +kernel) (by decide) g0 g1 ?_
      refine Fr.bipush (by decide +kernel : zi 62 28 = some (.bipush 16, 2)) (by decide) ?_
      refine Fr.ishr (by decide +kernel : zi 62 30 = some (.ishr, 1)) ?_
      refine Fr.ior (by decide +kernel : zi 62 31 = some (.ior, 1)) ?_
      refine Fr.istn (lv2 := [some (rf 63), some (it (zor v1 (zshr (s 64 v2) 16))), some (it v2)]) (by decide +kernel : zi 62 32 = some (.istore_n 1, 1)) (Nat.le_of_ble_eq_true rfl) rfl ?_
      refine Fr.iinc (lv2 := [some (rf 63), some (it (zor v1 (zshr (s 64 v2) 16))), some (it (zw (v2 + 1)))]) (by decide +kernel : zi 62 33 = some (.iinc 2 1, 3)) (Nat.le_of_ble_eq_true rfl) rfl rfl ?_
      refine Fr.goto (q := 4) (by decide +kernel : zi 62 36 = some (.goto (-32), 3)) (by decide +kernel) ?_
      exact h
-- 63 X4_findBest
theorem f63_0 {xs : Nat → Int} {L : Nat} {d : Nat} {v1 : Int} {s : Pl} {P : Pl → Prop} (h : Fr xs L T0 104 d 63 12 [some (rf 63), some (it v1), some (it 0), none] [] (zup (zup s 62 6 (-1)) 62 7 0) (qv P)) : Fr xs L T0 104 d 63 0 [some (rf 63), some (it v1), none, none] [] s (qv P) := by
  refine Fr.aldn (c := 63) (by decide +kernel : zi 63 0 = some (.aload_n 0, 1)) rfl ⟨by omega, by omega⟩ ?_
  refine Fr.iconst (by decide +kernel : zi 63 1 = some (.iconst (-1), 1)) (by decide) ?_
  refine Fr.pI (c := 62) (ci := 4) (k := 6) 6 (by decide +kernel : zi 63 2 = some (.putfield 105, 3)) (by decide +kernel) (by decide +kernel) (by decide +kernel) (by decide) rfl ?_
  refine Fr.aldn (c := 63) (by decide +kernel : zi 63 5 = some (.aload_n 0, 1)) rfl ⟨by omega, by omega⟩ ?_
  refine Fr.iconst (by decide +kernel : zi 63 6 = some (.iconst 0, 1)) (by decide) ?_
  refine Fr.pI (c := 62) (ci := 4) (k := 7) 7 (by decide +kernel : zi 63 7 = some (.putfield 108, 3)) (by decide +kernel) (by decide +kernel) (by decide +kernel) (by decide) rfl ?_
  refine Fr.iconst (by decide +kernel : zi 63 10 = some (.iconst 0, 1)) (by decide) ?_
  refine Fr.istn (lv2 := [some (rf 63), some (it v1), some (it 0), none]) (by decide +kernel : zi 63 11 = some (.istore_n 2, 1)) (Nat.le_of_ble_eq_true rfl) rfl ?_
  exact h
theorem e63 {xs : Nat → Int} {L : Nat} {d : Nat} {v1 : Int} {s : Pl} {Q : Option AV → Pl → Prop} (hd : 1 ≤ d) (k : Fr xs L T0 104 (d - 1) 63 0 [some (rf 63), some (it v1), none, none] [] s Q) : Ev xs L T0 104 d 63 [rf 63, it v1] s Q := Ev.of (by decide) _ rfl hd k
theorem f63_12 {xs : Nat → Int} {L : Nat} {d : Nat} {v1 : Int} {v2 : Int} {w3 : Option AV} {s : Pl} {P : Pl → Prop} (h : ((s 62 5 ≤ v2 → P s) ∧ (¬ (s 62 5 ≤ v2) → ((v1 < v2 → P s) ∧ (¬ (v1 < v2) → ((402 ≤ zw (v2 + 1) → P s) ∧ (¬ (402 ≤ zw (v2 + 1)) → Ev xs L T0 104 d 64 [rf 63, it v2] s (qi fun r2 s1 => ((r2 ≤ s1 62 6 → Fr xs L T0 104 d 63 60 [some (rf 63), some (it v1), some (it v2), some (it r2)] [] s1 (qv P)) ∧ (¬ (r2 ≤ s1 62 6) → Fr xs L T0 104 d 63 60 [some (rf 63), some (it v1), some (it v2), some (it r2)] [] (zup (zup s1 62 6 r2) 62 7 v2) (qv P))))))))))) : Fr xs L T0 104 d 63 12 [some (rf 63), some (it v1), some (it v2), w3] [] s (qv P) := by
  refine Fr.ildn (by decide +kernel : zi 63 12 = some (.iload_n 2, 1)) rfl ?_
  refine Fr.aldn (c := 63) (by decide +kernel : zi 63 13 = some (.aload_n 0, 1)) rfl ⟨by omega, by omega⟩ ?_
  refine Fr.gI (c := 62) (ci := 4) (k := 5) (t := 0) 5 (by decide +kernel : zi 63 14 = some (.getfield 35, 3)) (by decide +kernel) (by decide +kernel) (by decide +kernel) (by decide) rfl ?_
  refine Fr.if2 (q := 66) (by decide +kernel : zi 63 17 = some (.if_icmp .ge 49, 3)) (by decide +kernel) (fun g9 => ?_) (fun g9 => ?_)
  · have h := h.1 g9
    exact Fr.retV (by decide +kernel : zi 63 66 = some (.return_, 1)) (by decide +kernel) h
  · have h := h.2 g9
    refine Fr.ildn (by decide +kernel : zi 63 20 = some (.iload_n 2, 1)) rfl ?_
    refine Fr.ildn (by decide +kernel : zi 63 21 = some (.iload_n 1, 1)) rfl ?_
    refine Fr.if2 (q := 66) (by decide +kernel : zi 63 22 = some (.if_icmp .gt 44, 3)) (by decide +kernel) (fun g9 => ?_) (fun g9 => ?_)
    · have h := h.1 g9
      exact Fr.retV (by decide +kernel : zi 63 66 = some (.return_, 1)) (by decide +kernel) h
    · have h := h.2 g9
      refine Fr.ildn (by decide +kernel : zi 63 25 = some (.iload_n 2, 1)) rfl ?_
      refine Fr.iconst (by decide +kernel : zi 63 26 = some (.iconst 1, 1)) (by decide) ?_
      refine Fr.iadd (by decide +kernel : zi 63 27 = some (.iadd, 1)) ?_
      refine Fr.aldn (c := 63) (by decide +kernel : zi 63 28 = some (.aload_n 0, 1)) rfl ⟨by omega, by omega⟩ ?_
      refine Fr.gR (c := 62) (c2 := 66) (ci := 4) (k := 3) 3 (by decide +kernel : zi 63 29 = some (.getfield 18, 3)) (by decide +kernel) (by decide +kernel) (by decide +kernel) (by decide) rfl (fun q => q (62, 3, 66) (by decide +kernel)) ?_
      refine Fr.alen (c := 65) (N := 402) (K := 20) (by decide +kernel : zi 63 32 = some (.arraylength, 1)) (by decide +kernel) (by decide) (by decide) ?_
      refine Fr.if2 (q := 66) (by decide +kernel : zi 63 33 = some (.if_icmp .ge 33, 3)) (by decide +kernel) (fun g9 => ?_) (fun g9 => ?_)
      · have h := h.1 g9
        exact Fr.retV (by decide +kernel : zi 63 66 = some (.return_, 1)) (by decide +kernel) h
      · have h := h.2 g9
        refine Fr.aldn (c := 63) (by decide +kernel : zi 63 36 = some (.aload_n 0, 1)) rfl ⟨by omega, by omega⟩ ?_
        refine Fr.ildn (by decide +kernel : zi 63 37 = some (.iload_n 2, 1)) rfl ?_
        refine Fr.callI (y2 := 64) (na := 2) (as := [rf 63, it v2]) (rest := []) (by decide +kernel : zi 63 38 = some (.invokevirtual 111, 3)) rfl (by decide +kernel) (by decide +kernel) rfl rfl (zok_V rfl (by decide) (by decide +kernel) (by decide +kernel) (zrecv_c (c := 62) (by decide) (by decide +kernel)) rfl (Nat.le_of_ble_eq_true rfl)) h (fun r2 s1 h => ?_)
        refine Fr.istn (lv2 := [some (rf 63), some (it v1), some (it v2), some (it r2)]) (by decide +kernel : zi 63 41 = some (.istore_n 3, 1)) (Nat.le_of_ble_eq_true rfl) rfl ?_
        refine Fr.ildn (by decide +kernel : zi 63 42 = some (.iload_n 3, 1)) rfl ?_
        refine Fr.aldn (c := 63) (by decide +kernel : zi 63 43 = some (.aload_n 0, 1)) rfl ⟨by omega, by omega⟩ ?_
        refine Fr.gI (c := 62) (ci := 4) (k := 6) (t := 0) 6 (by decide +kernel : zi 63 44 = some (.getfield 105, 3)) (by decide +kernel) (by decide +kernel) (by decide +kernel) (by decide) rfl ?_
        refine Fr.if2 (q := 60) (by decide +kernel : zi 63 47 = some (.if_icmp .le 13, 3)) (by decide +kernel) (fun g9 => ?_) (fun g9 => ?_)
        · have h := h.1 g9
          exact h
        · have h := h.2 g9
          refine Fr.aldn (c := 63) (by decide +kernel : zi 63 50 = some (.aload_n 0, 1)) rfl ⟨by omega, by omega⟩ ?_
          refine Fr.ildn (by decide +kernel : zi 63 51 = some (.iload_n 3, 1)) rfl ?_
          refine Fr.pI (c := 62) (ci := 4) (k := 6) 6 (by decide +kernel : zi 63 52 = some (.putfield 105, 3)) (by decide +kernel) (by decide +kernel) (by decide +kernel) (by decide) rfl ?_
          refine Fr.aldn (c := 63) (by decide +kernel : zi 63 55 = some (.aload_n 0, 1)) rfl ⟨by omega, by omega⟩ ?_
          refine Fr.ildn (by decide +kernel : zi 63 56 = some (.iload_n 2, 1)) rfl ?_
          refine Fr.pI (c := 62) (ci := 4) (k := 7) 7 (by decide +kernel : zi 63 57 = some (.putfield 108, 3)) (by decide +kernel) (by decide +kernel) (by decide +kernel) (by decide) rfl ?_
          exact h
theorem f63_60 {xs : Nat → Int} {L : Nat} {d : Nat} {v1 : Int} {v2 : Int} {v3 : Int} {s : Pl} {P : Pl → Prop} (h : Fr xs L T0 104 d 63 12 [some (rf 63), some (it v1), some (it (zw (v2 + 1))), some (it v3)] [] s (qv P)) : Fr xs L T0 104 d 63 60 [some (rf 63), some (it v1), some (it v2), some (it v3)] [] s (qv P) := by
  refine Fr.iinc (lv2 := [some (rf 63), some (it v1), some (it (zw (v2 + 1))), some (it v3)]) (by decide +kernel : zi 63 60 = some (.iinc 2 1, 3)) (Nat.le_of_ble_eq_true rfl) rfl rfl ?_
  refine Fr.goto (q := 12) (by decide +kernel : zi 63 63 = some (.goto (-51), 3)) (by decide +kernel) ?_
  exact h
-- 64 X4_mostGainAt
theorem f64_0 {xs : Nat → Int} {L : Nat} {d : Nat} {v1 : Int} {s : Pl} {P : Int → Pl → Prop} (h : (0 ≤ v1 ∧ v1 < 402) ∧ Fr xs L T0 104 d 64 12 [some (rf 63), some (it v1), some (it (-1)), some (it (-1)), some (it (s 65 v1)), none] [] s (qi P)) : Fr xs L T0 104 d 64 0 [some (rf 63), some (it v1), none, none, none, none] [] s (qi P) := by
  refine Fr.iconst (by decide +kernel : zi 64 0 = some (.iconst (-1), 1)) (by decide) ?_
  refine Fr.istn (lv2 := [some (rf 63), some (it v1), some (it (-1)), none, none, none]) (by decide +kernel : zi 64 1 = some (.istore_n 2, 1)) (Nat.le_of_ble_eq_true rfl) rfl ?_
  refine Fr.iconst (by decide +kernel : zi 64 2 = some (.iconst (-1), 1)) (by decide) ?_
  refine Fr.istn (lv2 := [some (rf 63), some (it v1), some (it (-1)), some (it (-1)), none, none]) (by decide +kernel : zi 64 3 = some (.istore_n 3, 1)) (Nat.le_of_ble_eq_true rfl) rfl ?_
  refine Fr.aldn (c := 63) (by decide +kernel : zi 64 4 = some (.aload_n 0, 1)) rfl ⟨by omega, by omega⟩ ?_
  refine Fr.gR (c := 62) (c2 := 66) (ci := 4) (k := 3) 3 (by decide +kernel : zi 64 5 = some (.getfield 18, 3)) (by decide +kernel) (by decide +kernel) (by decide +kernel) (by decide) rfl (fun q => q (62, 3, 66) (by decide +kernel)) ?_
  refine Fr.ildn (by decide +kernel : zi 64 8 = some (.iload_n 1, 1)) rfl ?_
  obtain ⟨⟨g0, g1⟩, h⟩ := h
  refine Fr.iald (c := 65) (N := 402) (by decide +kernel : zi 64 9 = some (.iaload, 1)) (by decide +kernel) (by decide) g0 g1 ?_
  refine Fr.ist (lv2 := [some (rf 63), some (it v1), some (it (-1)), some (it (-1)), some (it (s 65 v1)), none]) (by decide +kernel : zi 64 10 = some (.istore 4, 2)) (Nat.le_of_ble_eq_true rfl) rfl ?_
  exact h
theorem e64 {xs : Nat → Int} {L : Nat} {d : Nat} {v1 : Int} {s : Pl} {Q : Option AV → Pl → Prop} (hd : 1 ≤ d) (k : Fr xs L T0 104 (d - 1) 64 0 [some (rf 63), some (it v1), none, none, none, none] [] s Q) : Ev xs L T0 104 d 64 [rf 63, it v1] s Q := Ev.of (by decide) _ rfl hd k
theorem f64_12 {xs : Nat → Int} {L : Nat} {d : Nat} {v1 : Int} {v2 : Int} {v3 : Int} {v4 : Int} {w5 : Option AV} {s : Pl} {P : Int → Pl → Prop} (h : (0 ≤ zw (v1 + 1) ∧ zw (v1 + 1) < 402) ∧ ((s 65 (zw (v1 + 1)) ≤ v4 → P v2 s) ∧ (¬ (s 65 (zw (v1 + 1)) ≤ v4) → ((1440 ≤ v4 → P v2 s) ∧ (¬ (1440 ≤ v4) → (0 ≤ v4 ∧ v4 < 1440) ∧ ((zshr (s 64 v4) 16 = v3 → Fr xs L T0 104 d 64 68 [some (rf 63), some (it v1), some (it v2), some (it v3), some (it v4), some (it (zshr (s 64 v4) 16))] [] s (qi P)) ∧ (¬ (zshr (s 64 v4) 16 = v3) → Ev xs L T0 104 d 65 [rf 63, it (zshr (s 64 v4) 16), it v1] s (qi fun r2 s1 => Ev xs L T0 104 d 230 [it v2, it r2] s1 (qi fun r4 s3 => Fr xs L T0 104 d 64 68 [some (rf 63), some (it v1), some (it r4), some (it (zshr (s 64 v4) 16)), some (it v4), some (it (zshr (s 64 v4) 16))] [] s3 (qi P)))))))))) : Fr xs L T0 104 d 64 12 [some (rf 63), some (it v1), some (it v2), some (it v3), some (it v4), w5] [] s (qi P) := by
  refine Fr.ild (by decide +kernel : zi 64 12 = some (.iload 4, 2)) rfl ?_
  refine Fr.aldn (c := 63) (by decide +kernel : zi 64 14 = some (.aload_n 0, 1)) rfl ⟨by omega, by omega⟩ ?_
  refine Fr.gR (c := 62) (c2 := 66) (ci := 4) (k := 3) 3 (by decide +kernel : zi 64 15 = some (.getfield 18, 3)) (by decide +kernel) (by decide +kernel) (by decide +kernel) (by decide) rfl (fun q => q (62, 3, 66) (by decide +kernel)) ?_
  refine Fr.ildn (by decide +kernel : zi 64 18 = some (.iload_n 1, 1)) rfl ?_
  refine Fr.iconst (by decide +kernel : zi 64 19 = some (.iconst 1, 1)) (by decide) ?_
  refine Fr.iadd (by decide +kernel : zi 64 20 = some (.iadd, 1)) ?_
  obtain ⟨⟨g0, g1⟩, h⟩ := h
  refine Fr.iald (c := 65) (N := 402) (by decide +kernel : zi 64 21 = some (.iaload, 1)) (by decide +kernel) (by decide) g0 g1 ?_
  refine Fr.if2 (q := 74) (by decide +kernel : zi 64 22 = some (.if_icmp .ge 52, 3)) (by decide +kernel) (fun g9 => ?_) (fun g9 => ?_)
  · have h := h.1 g9
    refine Fr.ildn (by decide +kernel : zi 64 74 = some (.iload_n 2, 1)) rfl ?_
    exact Fr.retI (by decide +kernel : zi 64 75 = some (.ireturn, 1)) (by decide +kernel) h
  · have h := h.2 g9
    refine Fr.ild (by decide +kernel : zi 64 25 = some (.iload 4, 2)) rfl ?_
    refine Fr.aldn (c := 63) (by decide +kernel : zi 64 27 = some (.aload_n 0, 1)) rfl ⟨by omega, by omega⟩ ?_
    refine Fr.gR (c := 62) (c2 := 65) (ci := 4) (k := 2) 2 (by decide +kernel : zi 64 28 = some (.getfield 15, 3)) (by decide +kernel) (by decide +kernel) (by decide +kernel) (by decide) rfl (fun q => q (62, 2, 65) (by decide +kernel)) ?_
    refine Fr.alen (c := 64) (N := 1440) (K := 20) (by decide +kernel : zi 64 31 = some (.arraylength, 1)) (by decide +kernel) (by decide) (by decide) ?_
    refine Fr.if2 (q := 74) (by decide +kernel : zi 64 32 = some (.if_icmp .ge 42, 3)) (by decide +kernel) (fun g9 => ?_) (fun g9 => ?_)
    · have h := h.1 g9
      refine Fr.ildn (by decide +kernel : zi 64 74 = some (.iload_n 2, 1)) rfl ?_
      exact Fr.retI (by decide +kernel : zi 64 75 = some (.ireturn, 1)) (by decide +kernel) h
    · have h := h.2 g9
      refine Fr.aldn (c := 63) (by decide +kernel : zi 64 35 = some (.aload_n 0, 1)) rfl ⟨by omega, by omega⟩ ?_
      refine Fr.gR (c := 62) (c2 := 65) (ci := 4) (k := 2) 2 (by decide +kernel : zi 64 36 = some (.getfield 15, 3)) (by decide +kernel) (by decide +kernel) (by decide +kernel) (by decide) rfl (fun q => q (62, 2, 65) (by decide +kernel)) ?_
      refine Fr.ild (by decide +kernel : zi 64 39 = some (.iload 4, 2)) rfl ?_
      obtain ⟨⟨g0, g1⟩, h⟩ := h
      refine Fr.iald (c := 64) (N := 1440) (by decide +kernel : zi 64 41 = some (.iaload, 1)) (by decide +kernel) (by decide) g0 g1 ?_
      refine Fr.bipush (by decide +kernel : zi 64 42 = some (.bipush 16, 2)) (by decide) ?_
      refine Fr.ishr (by decide +kernel : zi 64 44 = some (.ishr, 1)) ?_
      refine Fr.ist (lv2 := [some (rf 63), some (it v1), some (it v2), some (it v3), some (it v4), some (it (zshr (s 64 v4) 16))]) (by decide +kernel : zi 64 45 = some (.istore 5, 2)) (Nat.le_of_ble_eq_true rfl) rfl ?_
      refine Fr.ild (by decide +kernel : zi 64 47 = some (.iload 5, 2)) rfl ?_
      refine Fr.ildn (by decide +kernel : zi 64 49 = some (.iload_n 3, 1)) rfl ?_
      refine Fr.if2 (q := 68) (by decide +kernel : zi 64 50 = some (.if_icmp .eq 18, 3)) (by decide +kernel) (fun g9 => ?_) (fun g9 => ?_)
      · have h := h.1 g9
        exact h
      · have h := h.2 g9
        refine Fr.ildn (by decide +kernel : zi 64 53 = some (.iload_n 2, 1)) rfl ?_
        refine Fr.aldn (c := 63) (by decide +kernel : zi 64 54 = some (.aload_n 0, 1)) rfl ⟨by omega, by omega⟩ ?_
        refine Fr.ild (by decide +kernel : zi 64 55 = some (.iload 5, 2)) rfl ?_
        refine Fr.ildn (by decide +kernel : zi 64 57 = some (.iload_n 1, 1)) rfl ?_
        refine Fr.callI (y2 := 65) (na := 3) (as := [rf 63, it (zshr (s 64 v4) 16), it v1]) (rest := [it v2]) (by decide +kernel : zi 64 58 = some (.invokevirtual 114, 3)) rfl (by decide +kernel) (by decide +kernel) rfl rfl (zok_V rfl (by decide) (by decide +kernel) (by decide +kernel) (zrecv_c (c := 62) (by decide) (by decide +kernel)) rfl (Nat.le_of_ble_eq_true rfl)) h (fun r2 s1 h => ?_)
        refine Fr.callI (y2 := 230) (na := 2) (as := [it v2, it r2]) (rest := []) (by decide +kernel : zi 64 61 = some (.invokestatic 117, 3)) rfl (by decide +kernel) (by decide +kernel) rfl rfl (zok_S rfl (by decide) (by decide +kernel) rfl (Nat.le_of_ble_eq_true rfl)) h (fun r4 s3 h => ?_)
        refine Fr.istn (lv2 := [some (rf 63), some (it v1), some (it r4), some (it v3), some (it v4), some (it (zshr (s 64 v4) 16))]) (by decide +kernel : zi 64 64 = some (.istore_n 2, 1)) (Nat.le_of_ble_eq_true rfl) rfl ?_
        refine Fr.ild (by decide +kernel : zi 64 65 = some (.iload 5, 2)) rfl ?_
        refine Fr.istn (lv2 := [some (rf 63), some (it v1), some (it r4), some (it (zshr (s 64 v4) 16)), some (it v4), some (it (zshr (s 64 v4) 16))]) (by decide +kernel : zi 64 67 = some (.istore_n 3, 1)) (Nat.le_of_ble_eq_true rfl) rfl ?_
        exact h
theorem f64_68 {xs : Nat → Int} {L : Nat} {d : Nat} {v1 : Int} {v2 : Int} {v3 : Int} {v4 : Int} {v5 : Int} {s : Pl} {P : Int → Pl → Prop} (h : Fr xs L T0 104 d 64 12 [some (rf 63), some (it v1), some (it v2), some (it v3), some (it (zw (v4 + 1))), some (it v5)] [] s (qi P)) : Fr xs L T0 104 d 64 68 [some (rf 63), some (it v1), some (it v2), some (it v3), some (it v4), some (it v5)] [] s (qi P) := by
  refine Fr.iinc (lv2 := [some (rf 63), some (it v1), some (it v2), some (it v3), some (it (zw (v4 + 1))), some (it v5)]) (by decide +kernel : zi 64 68 = some (.iinc 4 1, 3)) (Nat.le_of_ble_eq_true rfl) rfl rfl ?_
  refine Fr.goto (q := 12) (by decide +kernel : zi 64 71 = some (.goto (-59), 3)) (by decide +kernel) ?_
  exact h
-- 65 X4_gainOfAll
theorem f65_0 {xs : Nat → Int} {L : Nat} {d : Nat} {v1 : Int} {v2 : Int} {s : Pl} {P : Int → Pl → Prop} (h : Fr xs L T0 104 d 65 5 [some (rf 63), some (it v1), some (it v2), some (it 0), some (it 0)] [] s (qi P)) : Fr xs L T0 104 d 65 0 [some (rf 63), some (it v1), some (it v2), none, none] [] s (qi P) := by
  refine Fr.iconst (by decide +kernel : zi 65 0 = some (.iconst 0, 1)) (by decide) ?_
  refine Fr.istn (lv2 := [some (rf 63), some (it v1), some (it v2), some (it 0), none]) (by decide +kernel : zi 65 1 = some (.istore_n 3, 1)) (Nat.le_of_ble_eq_true rfl) rfl ?_
  refine Fr.iconst (by decide +kernel : zi 65 2 = some (.iconst 0, 1)) (by decide) ?_
  refine Fr.ist (lv2 := [some (rf 63), some (it v1), some (it v2), some (it 0), some (it 0)]) (by decide +kernel : zi 65 3 = some (.istore 4, 2)) (Nat.le_of_ble_eq_true rfl) rfl ?_
  exact h
theorem e65 {xs : Nat → Int} {L : Nat} {d : Nat} {v1 : Int} {v2 : Int} {s : Pl} {Q : Option AV → Pl → Prop} (hd : 1 ≤ d) (k : Fr xs L T0 104 (d - 1) 65 0 [some (rf 63), some (it v1), some (it v2), none, none] [] s Q) : Ev xs L T0 104 d 65 [rf 63, it v1, it v2] s Q := Ev.of (by decide) _ rfl hd k
theorem f65_5 {xs : Nat → Int} {L : Nat} {d : Nat} {v1 : Int} {v2 : Int} {v3 : Int} {v4 : Int} {s : Pl} {P : Int → Pl → Prop} (h : ((6 ≤ v4 → P v3 s) ∧ (¬ (6 ≤ v4) → ((zand (zshr v1 v4) 1 = 0 → Fr xs L T0 104 d 65 34 [some (rf 63), some (it v1), some (it v2), some (it v3), some (it v4)] [] s (qi P)) ∧ (¬ (zand (zshr v1 v4) 1 = 0) → Ev xs L T0 104 d 38 [rf 56, it v4, it v2] s (qi fun r2 s1 => Fr xs L T0 104 d 65 34 [some (rf 63), some (it v1), some (it v2), some (it (zw (v3 + r2))), some (it v4)] [] s1 (qi P))))))) : Fr xs L T0 104 d 65 5 [some (rf 63), some (it v1), some (it v2), some (it v3), some (it v4)] [] s (qi P) := by
  refine Fr.ild (by decide +kernel : zi 65 5 = some (.iload 4, 2)) rfl ?_
  refine Fr.bipush (by decide +kernel : zi 65 7 = some (.bipush 6, 2)) (by decide) ?_
  refine Fr.if2 (q := 40) (by decide +kernel : zi 65 9 = some (.if_icmp .ge 31, 3)) (by decide +kernel) (fun g9 => ?_) (fun g9 => ?_)
  · have h := h.1 g9
    refine Fr.ildn (by decide +kernel : zi 65 40 = some (.iload_n 3, 1)) rfl ?_
    exact Fr.retI (by decide +kernel : zi 65 41 = some (.ireturn, 1)) (by decide +kernel) h
  · have h := h.2 g9
    refine Fr.ildn (by decide +kernel : zi 65 12 = some (.iload_n 1, 1)) rfl ?_
    refine Fr.ild (by decide +kernel : zi 65 13 = some (.iload 4, 2)) rfl ?_
    refine Fr.ishr (by decide +kernel : zi 65 15 = some (.ishr, 1)) ?_
    refine Fr.iconst (by decide +kernel : zi 65 16 = some (.iconst 1, 1)) (by decide) ?_
    refine Fr.iand (by decide +kernel : zi 65 17 = some (.iand, 1)) ?_
    refine Fr.if0 (q := 34) (by decide +kernel : zi 65 18 = some (.ifCond .eq 16, 3)) (by decide +kernel) (fun g9 => ?_) (fun g9 => ?_)
    · have h := h.1 g9
      exact h
    · have h := h.2 g9
      refine Fr.ildn (by decide +kernel : zi 65 21 = some (.iload_n 3, 1)) rfl ?_
      refine Fr.aldn (c := 63) (by decide +kernel : zi 65 22 = some (.aload_n 0, 1)) rfl ⟨by omega, by omega⟩ ?_
      refine Fr.gR (c := 62) (c2 := 56) (ci := 4) (k := 0) 0 (by decide +kernel : zi 65 23 = some (.getfield 21, 3)) (by decide +kernel) (by decide +kernel) (by decide +kernel) (by decide) rfl (fun q => q (62, 0, 56) (by decide +kernel)) ?_
      refine Fr.ild (by decide +kernel : zi 65 26 = some (.iload 4, 2)) rfl ?_
      refine Fr.ildn (by decide +kernel : zi 65 28 = some (.iload_n 2, 1)) rfl ?_
      refine Fr.callI (y2 := 38) (na := 3) (as := [rf 56, it v4, it v2]) (rest := [it v3]) (by decide +kernel : zi 65 29 = some (.invokevirtual 122, 3)) rfl (by decide +kernel) (by decide +kernel) rfl rfl (zok_V rfl (by decide) (by decide +kernel) (by decide +kernel) (zrecv_c (c := 55) (by decide) (by decide +kernel)) rfl (Nat.le_of_ble_eq_true rfl)) h (fun r2 s1 h => ?_)
      refine Fr.iadd (by decide +kernel : zi 65 32 = some (.iadd, 1)) ?_
      refine Fr.istn (lv2 := [some (rf 63), some (it v1), some (it v2), some (it (zw (v3 + r2))), some (it v4)]) (by decide +kernel : zi 65 33 = some (.istore_n 3, 1)) (Nat.le_of_ble_eq_true rfl) rfl ?_
      exact h
theorem f65_34 {xs : Nat → Int} {L : Nat} {d : Nat} {v1 : Int} {v2 : Int} {v3 : Int} {v4 : Int} {s : Pl} {P : Int → Pl → Prop} (h : Fr xs L T0 104 d 65 5 [some (rf 63), some (it v1), some (it v2), some (it v3), some (it (zw (v4 + 1)))] [] s (qi P)) : Fr xs L T0 104 d 65 34 [some (rf 63), some (it v1), some (it v2), some (it v3), some (it v4)] [] s (qi P) := by
  refine Fr.iinc (lv2 := [some (rf 63), some (it v1), some (it v2), some (it v3), some (it (zw (v4 + 1)))]) (by decide +kernel : zi 65 34 = some (.iinc 4 1, 3)) (Nat.le_of_ble_eq_true rfl) rfl rfl ?_
  refine Fr.goto (q := 5) (by decide +kernel : zi 65 37 = some (.goto (-32), 3)) (by decide +kernel) ?_
  exact h
