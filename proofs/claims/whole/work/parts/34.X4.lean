-- 54 X4_reach
theorem f54_0 {xs : Nat → Int} {L : Nat} {d : Nat} {v1 : Int} {v2 : Int} {v3 : Int} {v4 : Int} {s : Pl} {P : Int → Pl → Prop} (h : Ev xs L T0 106 d 238 [rf 66, it 0] s (qv fun s1 => ((¬ v2 = 0 → Fr xs L T0 106 d 54 36 [some (rf 65), some (it v1), some (it v2), some (it v3), some (it v4), some (it 0), none, none, none] [it 1] (zup (zup s1 64 4 0) 64 5 0) (qi P)) ∧ (¬ (¬ v2 = 0) → Ev xs L T0 106 d 50 [rf 58] (zup (zup s1 64 4 0) 64 5 0) (qi fun r3 s2 => Fr xs L T0 106 d 54 36 [some (rf 65), some (it v1), some (it v2), some (it v3), some (it v4), some (it 0), none, none, none] [it r3] s2 (qi P)))))) : Fr xs L T0 106 d 54 0 [some (rf 65), some (it v1), some (it v2), some (it v3), some (it v4), none, none, none, none] [] s (qi P) := by
  refine Fr.aldn (c := 65) (by decide +kernel : zi 54 0 = some (.aload_n 0, 1)) rfl ⟨by omega, by omega⟩ ?_
  refine Fr.gR (c := 64) (c2 := 66) (ci := 4) (k := 1) 1 (by decide +kernel : zi 54 1 = some (.getfield 11, 3)) (by decide +kernel) (by decide +kernel) (by decide +kernel) (by decide) rfl (fun q => q (64, 1, 66) (by decide +kernel)) ?_
  refine Fr.iconst (by decide +kernel : zi 54 4 = some (.iconst 0, 1)) (by decide) ?_
  refine Fr.callV (y2 := 238) (na := 2) (as := [rf 66, it 0]) (rest := []) (by decide +kernel : zi 54 5 = some (.invokestatic 25, 3)) rfl (by decide +kernel) (by decide +kernel) rfl rfl (zok_S rfl (by decide) (by decide +kernel) rfl (Nat.le_of_ble_eq_true rfl)) h (fun s1 h => ?_)
  refine Fr.aldn (c := 65) (by decide +kernel : zi 54 8 = some (.aload_n 0, 1)) rfl ⟨by omega, by omega⟩ ?_
  refine Fr.iconst (by decide +kernel : zi 54 9 = some (.iconst 0, 1)) (by decide) ?_
  refine Fr.pI (c := 64) (ci := 4) (k := 4) 4 (by decide +kernel : zi 54 10 = some (.putfield 31, 3)) (by decide +kernel) (by decide +kernel) (by decide +kernel) (by decide) rfl ?_
  refine Fr.aldn (c := 65) (by decide +kernel : zi 54 13 = some (.aload_n 0, 1)) rfl ⟨by omega, by omega⟩ ?_
  refine Fr.iconst (by decide +kernel : zi 54 14 = some (.iconst 0, 1)) (by decide) ?_
  refine Fr.pI (c := 64) (ci := 4) (k := 5) 5 (by decide +kernel : zi 54 15 = some (.putfield 35, 3)) (by decide +kernel) (by decide +kernel) (by decide +kernel) (by decide) rfl ?_
  refine Fr.iconst (by decide +kernel : zi 54 18 = some (.iconst 0, 1)) (by decide) ?_
  refine Fr.ist (lv2 := [some (rf 65), some (it v1), some (it v2), some (it v3), some (it v4), some (it 0), none, none, none]) (by decide +kernel : zi 54 19 = some (.istore 5, 2)) (Nat.le_of_ble_eq_true rfl) rfl ?_
  refine Fr.ildn (by decide +kernel : zi 54 21 = some (.iload_n 2, 1)) rfl ?_
  refine Fr.if0 (q := 35) (by decide +kernel : zi 54 22 = some (.ifCond .ne 13, 3)) (by decide +kernel) (fun g9 => ?_) (fun g9 => ?_)
  · have h := h.1 g9
    refine Fr.iconst (by decide +kernel : zi 54 35 = some (.iconst 1, 1)) (by decide) ?_
    exact h
  · have h := h.2 g9
    refine Fr.aldn (c := 65) (by decide +kernel : zi 54 25 = some (.aload_n 0, 1)) rfl ⟨by omega, by omega⟩ ?_
    refine Fr.gR (c := 64) (c2 := 58) (ci := 4) (k := 0) 0 (by decide +kernel : zi 54 26 = some (.getfield 21, 3)) (by decide +kernel) (by decide +kernel) (by decide +kernel) (by decide) rfl (fun q => q (64, 0, 58) (by decide +kernel)) ?_
    refine Fr.callI (y2 := 50) (na := 1) (as := [rf 58]) (rest := []) (by decide +kernel : zi 54 29 = some (.invokevirtual 38, 3)) rfl (by decide +kernel) (by decide +kernel) rfl rfl (zok_V rfl (by decide) (by decide +kernel) (by decide +kernel) (zrecv_c (c := 57) (by decide) (by decide +kernel)) rfl (Nat.le_of_ble_eq_true rfl)) h (fun r3 s2 h => ?_)
    refine Fr.goto (q := 36) (by decide +kernel : zi 54 32 = some (.goto 4, 3)) (by decide +kernel) ?_
    exact h
theorem e54 {xs : Nat → Int} {L : Nat} {d : Nat} {v1 : Int} {v2 : Int} {v3 : Int} {v4 : Int} {s : Pl} {Q : Option AV → Pl → Prop} (hd : 1 ≤ d) (k : Fr xs L T0 106 (d - 1) 54 0 [some (rf 65), some (it v1), some (it v2), some (it v3), some (it v4), none, none, none, none] [] s Q) : Ev xs L T0 106 d 54 [rf 65, it v1, it v2, it v3, it v4] s Q := Ev.of (by decide) _ rfl hd k
theorem f54_36 {xs : Nat → Int} {L : Nat} {d : Nat} {v1 : Int} {v2 : Int} {v3 : Int} {v4 : Int} {v5 : Int} {vs0 : Int} {s : Pl} {P : Int → Pl → Prop} (h : Fr xs L T0 106 d 54 41 [some (rf 65), some (it v1), some (it v2), some (it v3), some (it v4), some (it v5), some (it vs0), some (it 0), none] [] s (qi P)) : Fr xs L T0 106 d 54 36 [some (rf 65), some (it v1), some (it v2), some (it v3), some (it v4), some (it v5), none, none, none] [it vs0] s (qi P) := by
  refine Fr.ist (lv2 := [some (rf 65), some (it v1), some (it v2), some (it v3), some (it v4), some (it v5), some (it vs0), none, none]) (by decide +kernel : zi 54 36 = some (.istore 6, 2)) (Nat.le_of_ble_eq_true rfl) rfl ?_
  refine Fr.iconst (by decide +kernel : zi 54 38 = some (.iconst 0, 1)) (by decide) ?_
  refine Fr.ist (lv2 := [some (rf 65), some (it v1), some (it v2), some (it v3), some (it v4), some (it v5), some (it vs0), some (it 0), none]) (by decide +kernel : zi 54 39 = some (.istore 7, 2)) (Nat.le_of_ble_eq_true rfl) rfl ?_
  exact h
theorem f54_41 {xs : Nat → Int} {L : Nat} {d : Nat} {v1 : Int} {v2 : Int} {v3 : Int} {v4 : Int} {v5 : Int} {v6 : Int} {v7 : Int} {w8 : Option AV} {s : Pl} {P : Int → Pl → Prop} (h : ((v4 < v7 → P (-1) s) ∧ (¬ (v4 < v7) → ((400 < v7 → P (-1) s) ∧ (¬ (400 < v7) → ((v6 < zw (v7 - v5) → P (-1) s) ∧ (¬ (v6 < zw (v7 - v5)) → (0 ≤ v7 ∧ v7 < 402) ∧ ((¬ v7 = 0 → Ev xs L T0 106 d 58 [rf 65, it v7, it v2] (zup s 67 v7 (s 64 4)) (qv fun s1 => Fr xs L T0 106 d 54 97 [some (rf 65), some (it v1), some (it v2), some (it v3), some (it v4), some (it v5), some (it v6), some (it v7), w8] [] s1 (qi P))) ∧ (¬ (¬ v7 = 0) → Ev xs L T0 106 d 55 [rf 65, it v1] (zup s 67 v7 (s 64 4)) (qv fun s2 => Fr xs L T0 106 d 54 97 [some (rf 65), some (it v1), some (it v2), some (it v3), some (it v4), some (it v5), some (it v6), some (it v7), w8] [] s2 (qi P))))))))))) : Fr xs L T0 106 d 54 41 [some (rf 65), some (it v1), some (it v2), some (it v3), some (it v4), some (it v5), some (it v6), some (it v7), w8] [] s (qi P) := by
  refine Fr.ild (by decide +kernel : zi 54 41 = some (.iload 7, 2)) rfl ?_
  refine Fr.ild (by decide +kernel : zi 54 43 = some (.iload 4, 2)) rfl ?_
  refine Fr.if2 (q := 241) (by decide +kernel : zi 54 45 = some (.if_icmp .gt 196, 3)) (by decide +kernel) (fun g9 => ?_) (fun g9 => ?_)
  · have h := h.1 g9
    refine Fr.iconst (by decide +kernel : zi 54 241 = some (.iconst (-1), 1)) (by decide) ?_
    exact Fr.retI (by decide +kernel : zi 54 242 = some (.ireturn, 1)) (by decide +kernel) h
  · have h := h.2 g9
    refine Fr.ild (by decide +kernel : zi 54 48 = some (.iload 7, 2)) rfl ?_
    refine Fr.sipush (by decide +kernel : zi 54 50 = some (.sipush 400, 3)) (by decide) ?_
    refine Fr.if2 (q := 241) (by decide +kernel : zi 54 53 = some (.if_icmp .gt 188, 3)) (by decide +kernel) (fun g9 => ?_) (fun g9 => ?_)
    · have h := h.1 g9
      refine Fr.iconst (by decide +kernel : zi 54 241 = some (.iconst (-1), 1)) (by decide) ?_
      exact Fr.retI (by decide +kernel : zi 54 242 = some (.ireturn, 1)) (by decide +kernel) h
    · have h := h.2 g9
      refine Fr.ild (by decide +kernel : zi 54 56 = some (.iload 7, 2)) rfl ?_
      refine Fr.ild (by decide +kernel : zi 54 58 = some (.iload 5, 2)) rfl ?_
      refine Fr.isub (by decide +kernel : zi 54 60 = some (.isub, 1)) ?_
      refine Fr.ild (by decide +kernel : zi 54 61 = some (.iload 6, 2)) rfl ?_
      refine Fr.if2 (q := 241) (by decide +kernel : zi 54 63 = some (.if_icmp .gt 178, 3)) (by decide +kernel) (fun g9 => ?_) (fun g9 => ?_)
      · have h := h.1 g9
        refine Fr.iconst (by decide +kernel : zi 54 241 = some (.iconst (-1), 1)) (by decide) ?_
        exact Fr.retI (by decide +kernel : zi 54 242 = some (.ireturn, 1)) (by decide +kernel) h
      · have h := h.2 g9
        refine Fr.aldn (c := 65) (by decide +kernel : zi 54 66 = some (.aload_n 0, 1)) rfl ⟨by omega, by omega⟩ ?_
        refine Fr.gR (c := 64) (c2 := 68) (ci := 4) (k := 3) 3 (by decide +kernel : zi 54 67 = some (.getfield 18, 3)) (by decide +kernel) (by decide +kernel) (by decide +kernel) (by decide) rfl (fun q => q (64, 3, 68) (by decide +kernel)) ?_
        refine Fr.ild (by decide +kernel : zi 54 70 = some (.iload 7, 2)) rfl ?_
        refine Fr.aldn (c := 65) (by decide +kernel : zi 54 72 = some (.aload_n 0, 1)) rfl ⟨by omega, by omega⟩ ?_
        refine Fr.gI (c := 64) (ci := 4) (k := 4) (t := 0) 4 (by decide +kernel : zi 54 73 = some (.getfield 31, 3)) (by decide +kernel) (by decide +kernel) (by decide +kernel) (by decide) rfl ?_
        obtain ⟨⟨g0, g1⟩, h⟩ := h
        refine Fr.iast (c := 67) (N := 402) (by decide +kernel : zi 54 76 = some (.iastore, 1)) (by decide +kernel) (by decide) g0 g1 ?_
        refine Fr.ild (by decide +kernel : zi 54 77 = some (.iload 7, 2)) rfl ?_
        refine Fr.if0 (q := 90) (by decide +kernel : zi 54 79 = some (.ifCond .ne 11, 3)) (by decide +kernel) (fun g9 => ?_) (fun g9 => ?_)
        · have h := h.1 g9
          refine Fr.aldn (c := 65) (by decide +kernel : zi 54 90 = some (.aload_n 0, 1)) rfl ⟨by omega, by omega⟩ ?_
          refine Fr.ild (by decide +kernel : zi 54 91 = some (.iload 7, 2)) rfl ?_
          refine Fr.ildn (by decide +kernel : zi 54 93 = some (.iload_n 2, 1)) rfl ?_
          refine Fr.callV (y2 := 58) (na := 3) (as := [rf 65, it v7, it v2]) (rest := []) (by decide +kernel : zi 54 94 = some (.invokevirtual 48, 3)) rfl (by decide +kernel) (by decide +kernel) rfl rfl (zok_V rfl (by decide) (by decide +kernel) (by decide +kernel) (zrecv_c (c := 64) (by decide) (by decide +kernel)) rfl (Nat.le_of_ble_eq_true rfl)) h (fun s1 h => ?_)
          exact h
        · have h := h.2 g9
          refine Fr.aldn (c := 65) (by decide +kernel : zi 54 82 = some (.aload_n 0, 1)) rfl ⟨by omega, by omega⟩ ?_
          refine Fr.ildn (by decide +kernel : zi 54 83 = some (.iload_n 1, 1)) rfl ?_
          refine Fr.callV (y2 := 55) (na := 2) (as := [rf 65, it v1]) (rest := []) (by decide +kernel : zi 54 84 = some (.invokevirtual 44, 3)) rfl (by decide +kernel) (by decide +kernel) rfl rfl (zok_V rfl (by decide) (by decide +kernel) (by decide +kernel) (zrecv_c (c := 64) (by decide) (by decide +kernel)) rfl (Nat.le_of_ble_eq_true rfl)) h (fun s2 h => ?_)
          refine Fr.goto (q := 97) (by decide +kernel : zi 54 87 = some (.goto 10, 3)) (by decide +kernel) ?_
          exact h
theorem f54_97 {xs : Nat → Int} {L : Nat} {d : Nat} {v1 : Int} {v2 : Int} {v3 : Int} {v4 : Int} {v5 : Int} {v6 : Int} {v7 : Int} {w8 : Option AV} {s : Pl} {P : Int → Pl → Prop} (h : Ev xs L T0 106 d 246 [rf 65, it v7] s (qi fun r2 s1 => Fr xs L T0 106 d 54 105 [some (rf 65), some (it v1), some (it v2), some (it v3), some (it v4), some (it v5), some (it v6), some (it v7), some (it r2)] [] s1 (qi P))) : Fr xs L T0 106 d 54 97 [some (rf 65), some (it v1), some (it v2), some (it v3), some (it v4), some (it v5), some (it v6), some (it v7), w8] [] s (qi P) := by
  refine Fr.aldn (c := 65) (by decide +kernel : zi 54 97 = some (.aload_n 0, 1)) rfl ⟨by omega, by omega⟩ ?_
  refine Fr.ild (by decide +kernel : zi 54 98 = some (.iload 7, 2)) rfl ?_
  refine Fr.callI (y2 := 246) (na := 2) (as := [rf 65, it v7]) (rest := []) (by decide +kernel : zi 54 100 = some (.invokevirtual 52, 3)) rfl (by decide +kernel) (by decide +kernel) rfl rfl (zok_V rfl (by decide) (by decide +kernel) (by decide +kernel) (zrecv_c (c := 64) (by decide) (by decide +kernel)) rfl (Nat.le_of_ble_eq_true rfl)) h (fun r2 s1 h => ?_)
  refine Fr.ist (lv2 := [some (rf 65), some (it v1), some (it v2), some (it v3), some (it v4), some (it v5), some (it v6), some (it v7), some (it r2)]) (by decide +kernel : zi 54 103 = some (.istore 8, 2)) (Nat.le_of_ble_eq_true rfl) rfl ?_
  exact h
theorem f54_105 {xs : Nat → Int} {L : Nat} {d : Nat} {v1 : Int} {v2 : Int} {v3 : Int} {v4 : Int} {v5 : Int} {v6 : Int} {v7 : Int} {v8 : Int} {s : Pl} {P : Int → Pl → Prop} (h : ((s 64 4 ≤ v8 → Fr xs L T0 106 d 54 214 [some (rf 65), some (it v1), some (it v2), some (it v3), some (it v4), some (it v5), some (it v6), some (it v7), some (it v8)] [] s (qi P)) ∧ (¬ (s 64 4 ≤ v8) → ((1440 ≤ v8 → Fr xs L T0 106 d 54 214 [some (rf 65), some (it v1), some (it v2), some (it v3), some (it v4), some (it v5), some (it v6), some (it v7), some (it v8)] [] s (qi P)) ∧ (¬ (1440 ≤ v8) → (0 ≤ v8 ∧ v8 < 1440) ∧ Ev xs L T0 106 d 42 [rf 58, it (s 66 v8)] s (qv fun s1 => ((¬ zand (s1 57 14) v3 = v3 → ((¬ v2 = 1 → (0 ≤ v8 ∧ v8 < 1440) ∧ Ev xs L T0 106 d 57 [rf 65, it (s1 66 v8)] s1 (qv fun s2 => Fr xs L T0 106 d 54 184 [some (rf 65), some (it v1), some (it v2), some (it v3), some (it v4), some (it v5), some (it v6), some (it v7), some (it v8)] [] s2 (qi P))) ∧ (¬ (¬ v2 = 1) → (0 ≤ v8 ∧ v8 < 1440) ∧ Ev xs L T0 106 d 56 [rf 65, it (s1 66 v8)] s1 (qv fun s3 => Fr xs L T0 106 d 54 184 [some (rf 65), some (it v1), some (it v2), some (it v3), some (it v4), some (it v5), some (it v6), some (it v7), some (it v8)] [] s3 (qi P))))) ∧ (¬ (¬ zand (s1 57 14) v3 = v3) → P v7 s1)))))))) : Fr xs L T0 106 d 54 105 [some (rf 65), some (it v1), some (it v2), some (it v3), some (it v4), some (it v5), some (it v6), some (it v7), some (it v8)] [] s (qi P) := by
  refine Fr.ild (by decide +kernel : zi 54 105 = some (.iload 8, 2)) rfl ?_
  refine Fr.aldn (c := 65) (by decide +kernel : zi 54 107 = some (.aload_n 0, 1)) rfl ⟨by omega, by omega⟩ ?_
  refine Fr.gI (c := 64) (ci := 4) (k := 4) (t := 0) 4 (by decide +kernel : zi 54 108 = some (.getfield 31, 3)) (by decide +kernel) (by decide +kernel) (by decide +kernel) (by decide) rfl ?_
  refine Fr.if2 (q := 214) (by decide +kernel : zi 54 111 = some (.if_icmp .ge 103, 3)) (by decide +kernel) (fun g9 => ?_) (fun g9 => ?_)
  · have h := h.1 g9
    exact h
  · have h := h.2 g9
    refine Fr.ild (by decide +kernel : zi 54 114 = some (.iload 8, 2)) rfl ?_
    refine Fr.aldn (c := 65) (by decide +kernel : zi 54 116 = some (.aload_n 0, 1)) rfl ⟨by omega, by omega⟩ ?_
    refine Fr.gR (c := 64) (c2 := 67) (ci := 4) (k := 2) 2 (by decide +kernel : zi 54 117 = some (.getfield 15, 3)) (by decide +kernel) (by decide +kernel) (by decide +kernel) (by decide) rfl (fun q => q (64, 2, 67) (by decide +kernel)) ?_
    refine Fr.alen (c := 66) (N := 1440) (K := 20) (by decide +kernel : zi 54 120 = some (.arraylength, 1)) (by decide +kernel) (by decide) (by decide) ?_
    refine Fr.if2 (q := 214) (by decide +kernel : zi 54 121 = some (.if_icmp .ge 93, 3)) (by decide +kernel) (fun g9 => ?_) (fun g9 => ?_)
    · have h := h.1 g9
      exact h
    · have h := h.2 g9
      refine Fr.aldn (c := 65) (by decide +kernel : zi 54 124 = some (.aload_n 0, 1)) rfl ⟨by omega, by omega⟩ ?_
      refine Fr.gR (c := 64) (c2 := 58) (ci := 4) (k := 0) 0 (by decide +kernel : zi 54 125 = some (.getfield 21, 3)) (by decide +kernel) (by decide +kernel) (by decide +kernel) (by decide) rfl (fun q => q (64, 0, 58) (by decide +kernel)) ?_
      refine Fr.aldn (c := 65) (by decide +kernel : zi 54 128 = some (.aload_n 0, 1)) rfl ⟨by omega, by omega⟩ ?_
      refine Fr.gR (c := 64) (c2 := 67) (ci := 4) (k := 2) 2 (by decide +kernel : zi 54 129 = some (.getfield 15, 3)) (by decide +kernel) (by decide +kernel) (by decide +kernel) (by decide) rfl (fun q => q (64, 2, 67) (by decide +kernel)) ?_
      refine Fr.ild (by decide +kernel : zi 54 132 = some (.iload 8, 2)) rfl ?_
      obtain ⟨⟨g0, g1⟩, h⟩ := h
      refine Fr.iald (c := 66) (N := 1440) (by decide +kernel : zi 54 134 = some (.iaload, 1)) (by decide +kernel) (by decide) g0 g1 ?_
      refine Fr.callV (y2 := 42) (na := 2) (as := [rf 58, it (s 66 v8)]) (rest := []) (by decide +kernel : zi 54 135 = some (.invokevirtual 56, 3)) rfl (by decide +kernel) (by decide +kernel) rfl rfl (zok_V rfl (by decide) (by decide +kernel) (by decide +kernel) (zrecv_c (c := 57) (by decide) (by decide +kernel)) rfl (Nat.le_of_ble_eq_true rfl)) h (fun s1 h => ?_)
      refine Fr.aldn (c := 65) (by decide +kernel : zi 54 138 = some (.aload_n 0, 1)) rfl ⟨by omega, by omega⟩ ?_
      refine Fr.gR (c := 64) (c2 := 58) (ci := 4) (k := 0) 0 (by decide +kernel : zi 54 139 = some (.getfield 21, 3)) (by decide +kernel) (by decide +kernel) (by decide +kernel) (by decide) rfl (fun q => q (64, 0, 58) (by decide +kernel)) ?_
      refine Fr.gI (c := 57) (ci := 3) (k := 14) (t := 0) 14 (by decide +kernel : zi 54 142 = some (.getfield 59, 3)) (by decide +kernel) (by decide +kernel) (by decide +kernel) (by decide) rfl ?_
      refine Fr.ildn (by decide +kernel : zi 54 145 = some (.iload_n 3, 1)) rfl ?_
      refine Fr.iand (by decide +kernel : zi 54 146 = some (.iand, 1)) ?_
      refine Fr.ildn (by decide +kernel : zi 54 147 = some (.iload_n 3, 1)) rfl ?_
      refine Fr.if2 (q := 154) (by decide +kernel : zi 54 148 = some (.if_icmp .ne 6, 3)) (by decide +kernel) (fun g9 => ?_) (fun g9 => ?_)
      · have h := h.1 g9
        refine Fr.ildn (by decide +kernel : zi 54 154 = some (.iload_n 2, 1)) rfl ?_
        refine Fr.iconst (by decide +kernel : zi 54 155 = some (.iconst 1, 1)) (by decide) ?_
        refine Fr.if2 (q := 173) (by decide +kernel : zi 54 156 = some (.if_icmp .ne 17, 3)) (by decide +kernel) (fun g9 => ?_) (fun g9 => ?_)
        · have h := h.1 g9
          refine Fr.aldn (c := 65) (by decide +kernel : zi 54 173 = some (.aload_n 0, 1)) rfl ⟨by omega, by omega⟩ ?_
          refine Fr.aldn (c := 65) (by decide +kernel : zi 54 174 = some (.aload_n 0, 1)) rfl ⟨by omega, by omega⟩ ?_
          refine Fr.gR (c := 64) (c2 := 67) (ci := 4) (k := 2) 2 (by decide +kernel : zi 54 175 = some (.getfield 15, 3)) (by decide +kernel) (by decide +kernel) (by decide +kernel) (by decide) rfl (fun q => q (64, 2, 67) (by decide +kernel)) ?_
          refine Fr.ild (by decide +kernel : zi 54 178 = some (.iload 8, 2)) rfl ?_
          obtain ⟨⟨g0, g1⟩, h⟩ := h
          refine Fr.iald (c := 66) (N := 1440) (by decide +kernel : zi 54 180 = some (.iaload, 1)) (by decide +kernel) (by decide) g0 g1 ?_
          refine Fr.callV (y2 := 57) (na := 2) (as := [rf 65, it (s1 66 v8)]) (rest := []) (by decide +kernel : zi 54 181 = some (.invokevirtual 65, 3)) rfl (by decide +kernel) (by decide +kernel) rfl rfl (zok_V rfl (by decide) (by decide +kernel) (by decide +kernel) (zrecv_c (c := 64) (by decide) (by decide +kernel)) rfl (Nat.le_of_ble_eq_true rfl)) h (fun s2 h => ?_)
          exact h
        · have h := h.2 g9
          refine Fr.aldn (c := 65) (by decide +kernel : zi 54 159 = some (.aload_n 0, 1)) rfl ⟨by omega, by omega⟩ ?_
          refine Fr.aldn (c := 65) (by decide +kernel : zi 54 160 = some (.aload_n 0, 1)) rfl ⟨by omega, by omega⟩ ?_
          refine Fr.gR (c := 64) (c2 := 67) (ci := 4) (k := 2) 2 (by decide +kernel : zi 54 161 = some (.getfield 15, 3)) (by decide +kernel) (by decide +kernel) (by decide +kernel) (by decide) rfl (fun q => q (64, 2, 67) (by decide +kernel)) ?_
          refine Fr.ild (by decide +kernel : zi 54 164 = some (.iload 8, 2)) rfl ?_
          obtain ⟨⟨g0, g1⟩, h⟩ := h
          refine Fr.iald (c := 66) (N := 1440) (by decide +kernel : zi 54 166 = some (.iaload, 1)) (by decide +kernel) (by decide) g0 g1 ?_
          refine Fr.callV (y2 := 56) (na := 2) (as := [rf 65, it (s1 66 v8)]) (rest := []) (by decide +kernel : zi 54 167 = some (.invokevirtual 62, 3)) rfl (by decide +kernel) (by decide +kernel) rfl rfl (zok_V rfl (by decide) (by decide +kernel) (by decide +kernel) (zrecv_c (c := 64) (by decide) (by decide +kernel)) rfl (Nat.le_of_ble_eq_true rfl)) h (fun s3 h => ?_)
          refine Fr.goto (q := 184) (by decide +kernel : zi 54 170 = some (.goto 14, 3)) (by decide +kernel) ?_
          exact h
      · have h := h.2 g9
        refine Fr.ild (by decide +kernel : zi 54 151 = some (.iload 7, 2)) rfl ?_
        exact Fr.retI (by decide +kernel : zi 54 153 = some (.ireturn, 1)) (by decide +kernel) h
theorem f54_184 {xs : Nat → Int} {L : Nat} {d : Nat} {v1 : Int} {v2 : Int} {v3 : Int} {v4 : Int} {v5 : Int} {v6 : Int} {v7 : Int} {v8 : Int} {s : Pl} {P : Int → Pl → Prop} (h : (0 ≤ v8 ∧ v8 < 1440) ∧ (0 ≤ v8 ∧ v8 < 1440) ∧ Fr xs L T0 106 d 54 105 [some (rf 65), some (it v1), some (it v2), some (it v3), some (it v4), some (it v7), some (it v6), some (it v7), some (it (zw (v8 + 1)))] [] (zup s 66 v8 (zor (s 66 v8) (zshl (s 57 14) 16))) (qi P)) : Fr xs L T0 106 d 54 184 [some (rf 65), some (it v1), some (it v2), some (it v3), some (it v4), some (it v5), some (it v6), some (it v7), some (it v8)] [] s (qi P) := by
  refine Fr.aldn (c := 65) (by decide +kernel : zi 54 184 = some (.aload_n 0, 1)) rfl ⟨by omega, by omega⟩ ?_
  refine Fr.gR (c := 64) (c2 := 67) (ci := 4) (k := 2) 2 (by decide +kernel : zi 54 185 = some (.getfield 15, 3)) (by decide +kernel) (by decide +kernel) (by decide +kernel) (by decide) rfl (fun q => q (64, 2, 67) (by decide +kernel)) ?_
  refine Fr.ild (by decide +kernel : zi 54 188 = some (.iload 8, 2)) rfl ?_
  refine Fr.dup2 (by decide +kernel : zi 54 190 = some (.dup2, 1)) ⟨rfl, rfl⟩ ?_
  obtain ⟨⟨g0, g1⟩, h⟩ := h
  refine Fr.iald (c := 66) (N := 1440) (by decide +kernel : zi 54 191 = some (.iaload, 1)) (by decide +kernel) (by decide) g0 g1 ?_
  refine Fr.aldn (c := 65) (by decide +kernel : zi 54 192 = some (.aload_n 0, 1)) rfl ⟨by omega, by omega⟩ ?_
  refine Fr.gR (c := 64) (c2 := 58) (ci := 4) (k := 0) 0 (by decide +kernel : zi 54 193 = some (.getfield 21, 3)) (by decide +kernel) (by decide +kernel) (by decide +kernel) (by decide) rfl (fun q => q (64, 0, 58) (by decide +kernel)) ?_
  refine Fr.gI (c := 57) (ci := 3) (k := 14) (t := 0) 14 (by decide +kernel : zi 54 196 = some (.getfield 59, 3)) (by decide +kernel) (by decide +kernel) (by decide +kernel) (by decide) rfl ?_
  refine Fr.bipush (by decide +kernel : zi 54 199 = some (.bipush 16, 2)) (by decide) ?_
  refine Fr.ishl (by decide +kernel : zi 54 201 = some (.ishl, 1)) ?_
  refine Fr.ior (by decide +kernel : zi 54 202 = some (.ior, 1)) ?_
  obtain ⟨⟨g0, g1⟩, h⟩ := h
  refine Fr.iast (c := 66) (N := 1440) (by decide +kernel : zi 54 203 = some (.iastore, 1)) (by decide +kernel) (by decide) g0 g1 ?_
  refine Fr.ild (by decide +kernel : zi 54 204 = some (.iload 7, 2)) rfl ?_
  refine Fr.ist (lv2 := [some (rf 65), some (it v1), some (it v2), some (it v3), some (it v4), some (it v7), some (it v6), some (it v7), some (it v8)]) (by decide +kernel : zi 54 206 = some (.istore 5, 2)) (Nat.le_of_ble_eq_true rfl) rfl ?_
  refine Fr.iinc (lv2 := [some (rf 65), some (it v1), some (it v2), some (it v3), some (it v4), some (it v7), some (it v6), some (it v7), some (it (zw (v8 + 1)))]) (by decide +kernel : zi 54 208 = some (.iinc 8 1, 3)) (Nat.le_of_ble_eq_true rfl) rfl rfl ?_
  refine Fr.goto (q := 105) (by decide +kernel : zi 54 211 = some (.goto (-106), 3)) (by decide +kernel) ?_
  exact h
theorem f54_214 {xs : Nat → Int} {L : Nat} {d : Nat} {v1 : Int} {v2 : Int} {v3 : Int} {v4 : Int} {v5 : Int} {v6 : Int} {v7 : Int} {v8 : Int} {s : Pl} {P : Int → Pl → Prop} (h : (0 ≤ (zup s 64 5 (zw (v7 + 1))) 64 5 ∧ (zup s 64 5 (zw (v7 + 1))) 64 5 < 402) ∧ Fr xs L T0 106 d 54 41 [some (rf 65), some (it v1), some (it v2), some (it v3), some (it v4), some (it v5), some (it v6), some (it (zw (v7 + 1))), some (it v8)] [] (zup (zup s 64 5 (zw (v7 + 1))) 67 ((zup s 64 5 (zw (v7 + 1))) 64 5) ((zup s 64 5 (zw (v7 + 1))) 64 4)) (qi P)) : Fr xs L T0 106 d 54 214 [some (rf 65), some (it v1), some (it v2), some (it v3), some (it v4), some (it v5), some (it v6), some (it v7), some (it v8)] [] s (qi P) := by
  refine Fr.aldn (c := 65) (by decide +kernel : zi 54 214 = some (.aload_n 0, 1)) rfl ⟨by omega, by omega⟩ ?_
  refine Fr.ild (by decide +kernel : zi 54 215 = some (.iload 7, 2)) rfl ?_
  refine Fr.iconst (by decide +kernel : zi 54 217 = some (.iconst 1, 1)) (by decide) ?_
  refine Fr.iadd (by decide +kernel : zi 54 218 = some (.iadd, 1)) ?_
  refine Fr.pI (c := 64) (ci := 4) (k := 5) 5 (by decide +kernel : zi 54 219 = some (.putfield 35, 3)) (by decide +kernel) (by decide +kernel) (by decide +kernel) (by decide) rfl ?_
  refine Fr.aldn (c := 65) (by decide +kernel : zi 54 222 = some (.aload_n 0, 1)) rfl ⟨by omega, by omega⟩ ?_
  refine Fr.gR (c := 64) (c2 := 68) (ci := 4) (k := 3) 3 (by decide +kernel : zi 54 223 = some (.getfield 18, 3)) (by decide +kernel) (by decide +kernel) (by decide +kernel) (by decide) rfl (fun q => q (64, 3, 68) (by decide +kernel)) ?_
  refine Fr.aldn (c := 65) (by decide +kernel : zi 54 226 = some (.aload_n 0, 1)) rfl ⟨by omega, by omega⟩ ?_
  refine Fr.gI (c := 64) (ci := 4) (k := 5) (t := 0) 5 (by decide +kernel : zi 54 227 = some (.getfield 35, 3)) (by decide +kernel) (by decide +kernel) (by decide +kernel) (by decide) rfl ?_
  refine Fr.aldn (c := 65) (by decide +kernel : zi 54 230 = some (.aload_n 0, 1)) rfl ⟨by omega, by omega⟩ ?_
  refine Fr.gI (c := 64) (ci := 4) (k := 4) (t := 0) 4 (by decide +kernel : zi 54 231 = some (.getfield 31, 3)) (by decide +kernel) (by decide +kernel) (by decide +kernel) (by decide) rfl ?_
  obtain ⟨⟨g0, g1⟩, h⟩ := h
  refine Fr.iast (c := 67) (N := 402) (by decide +kernel : zi 54 234 = some (.iastore, 1)) (by decide +kernel) (by decide) g0 g1 ?_
  refine Fr.iinc (lv2 := [some (rf 65), some (it v1), some (it v2), some (it v3), some (it v4), some (it v5), some (it v6), some (it (zw (v7 + 1))), some (it v8)]) (by decide +kernel : zi 54 235 = some (.iinc 7 1, 3)) (Nat.le_of_ble_eq_true rfl) rfl rfl ?_
  refine Fr.goto (q := 41) (by decide +kernel : zi 54 238 = some (.goto (-197), 3)) (by decide +kernel) ?_
  exact h
-- 55 X4_add
theorem f55_0 {xs : Nat → Int} {L : Nat} {d : Nat} {v1 : Int} {s : Pl} {P : Pl → Prop} (h : ((v1 < 0 → P s) ∧ (¬ (v1 < 0) → ((62500 ≤ v1 → P s) ∧ (¬ (62500 ≤ v1) → ((s 64 4 < 0 → P s) ∧ (¬ (s 64 4 < 0) → ((s 64 4 < 1440 → (0 ≤ zshr v1 5 ∧ zshr v1 5 < 1954) ∧ ((¬ zand (s 65 (zshr v1 5)) (zshl 1 (zand v1 31)) = 0 → P s) ∧ (¬ (¬ zand (s 65 (zshr v1 5)) (zshl 1 (zand v1 31)) = 0) → (0 ≤ zshr v1 5 ∧ zshr v1 5 < 1954) ∧ (0 ≤ zshr v1 5 ∧ zshr v1 5 < 1954) ∧ (0 ≤ (zup s 65 (zshr v1 5) (zor (s 65 (zshr v1 5)) (zshl 1 (zand v1 31)))) 64 4 ∧ (zup s 65 (zshr v1 5) (zor (s 65 (zshr v1 5)) (zshl 1 (zand v1 31)))) 64 4 < 1440) ∧ P (zup (zup (zup s 65 (zshr v1 5) (zor (s 65 (zshr v1 5)) (zshl 1 (zand v1 31)))) 66 ((zup s 65 (zshr v1 5) (zor (s 65 (zshr v1 5)) (zshl 1 (zand v1 31)))) 64 4) v1) 64 4 (zw (((zup (zup s 65 (zshr v1 5) (zor (s 65 (zshr v1 5)) (zshl 1 (zand v1 31)))) 66 ((zup s 65 (zshr v1 5) (zor (s 65 (zshr v1 5)) (zshl 1 (zand v1 31)))) 64 4) v1) 64 4) + 1)))))) ∧ (¬ (s 64 4 < 1440) → P s))))))))) : Fr xs L T0 106 d 55 0 [some (rf 65), some (it v1), none] [] s (qv P) := by
  refine Fr.ildn (by decide +kernel : zi 55 0 = some (.iload_n 1, 1)) rfl ?_
  refine Fr.if0 (q := 29) (by decide +kernel : zi 55 1 = some (.ifCond .lt 28, 3)) (by decide +kernel) (fun g9 => ?_) (fun g9 => ?_)
  · have h := h.1 g9
    exact Fr.retV (by decide +kernel : zi 55 29 = some (.return_, 1)) (by decide +kernel) h
  · have h := h.2 g9
    refine Fr.ildn (by decide +kernel : zi 55 4 = some (.iload_n 1, 1)) rfl ?_
    refine Fr.ldc (v := it 62500) (by decide +kernel : zi 55 5 = some (.ldc 77, 2)) (by decide +kernel) ?_
    refine Fr.if2 (q := 29) (by decide +kernel : zi 55 7 = some (.if_icmp .ge 22, 3)) (by decide +kernel) (fun g9 => ?_) (fun g9 => ?_)
    · have h := h.1 g9
      exact Fr.retV (by decide +kernel : zi 55 29 = some (.return_, 1)) (by decide +kernel) h
    · have h := h.2 g9
      refine Fr.aldn (c := 65) (by decide +kernel : zi 55 10 = some (.aload_n 0, 1)) rfl ⟨by omega, by omega⟩ ?_
      refine Fr.gI (c := 64) (ci := 4) (k := 4) (t := 0) 4 (by decide +kernel : zi 55 11 = some (.getfield 31, 3)) (by decide +kernel) (by decide +kernel) (by decide +kernel) (by decide) rfl ?_
      refine Fr.if0 (q := 29) (by decide +kernel : zi 55 14 = some (.ifCond .lt 15, 3)) (by decide +kernel) (fun g9 => ?_) (fun g9 => ?_)
      · have h := h.1 g9
        exact Fr.retV (by decide +kernel : zi 55 29 = some (.return_, 1)) (by decide +kernel) h
      · have h := h.2 g9
        refine Fr.aldn (c := 65) (by decide +kernel : zi 55 17 = some (.aload_n 0, 1)) rfl ⟨by omega, by omega⟩ ?_
        refine Fr.gI (c := 64) (ci := 4) (k := 4) (t := 0) 4 (by decide +kernel : zi 55 18 = some (.getfield 31, 3)) (by decide +kernel) (by decide +kernel) (by decide +kernel) (by decide) rfl ?_
        refine Fr.aldn (c := 65) (by decide +kernel : zi 55 21 = some (.aload_n 0, 1)) rfl ⟨by omega, by omega⟩ ?_
        refine Fr.gR (c := 64) (c2 := 67) (ci := 4) (k := 2) 2 (by decide +kernel : zi 55 22 = some (.getfield 15, 3)) (by decide +kernel) (by decide +kernel) (by decide +kernel) (by decide) rfl (fun q => q (64, 2, 67) (by decide +kernel)) ?_
        refine Fr.alen (c := 66) (N := 1440) (K := 20) (by decide +kernel : zi 55 25 = some (.arraylength, 1)) (by decide +kernel) (by decide) (by decide) ?_
        refine Fr.if2 (q := 30) (by decide +kernel : zi 55 26 = some (.if_icmp .lt 4, 3)) (by decide +kernel) (fun g9 => ?_) (fun g9 => ?_)
        · have h := h.1 g9
          refine Fr.iconst (by decide +kernel : zi 55 30 = some (.iconst 1, 1)) (by decide) ?_
          refine Fr.ildn (by decide +kernel : zi 55 31 = some (.iload_n 1, 1)) rfl ?_
          refine Fr.bipush (by decide +kernel : zi 55 32 = some (.bipush 31, 2)) (by decide) ?_
          refine Fr.iand (by decide +kernel : zi 55 34 = some (.iand, 1)) ?_
          refine Fr.ishl (by decide +kernel : zi 55 35 = some (.ishl, 1)) ?_
          refine Fr.istn (lv2 := [some (rf 65), some (it v1), some (it (zshl 1 (zand v1 31)))]) (by decide +kernel : zi 55 36 = some (.istore_n 2, 1)) (Nat.le_of_ble_eq_true rfl) rfl ?_
          refine Fr.aldn (c := 65) (by decide +kernel : zi 55 37 = some (.aload_n 0, 1)) rfl ⟨by omega, by omega⟩ ?_
          refine Fr.gR (c := 64) (c2 := 66) (ci := 4) (k := 1) 1 (by decide +kernel : zi 55 38 = some (.getfield 11, 3)) (by decide +kernel) (by decide +kernel) (by decide +kernel) (by decide) rfl (fun q => q (64, 1, 66) (by decide +kernel)) ?_
          refine Fr.ildn (by decide +kernel : zi 55 41 = some (.iload_n 1, 1)) rfl ?_
          refine Fr.iconst (by decide +kernel : zi 55 42 = some (.iconst 5, 1)) (by decide) ?_
          refine Fr.ishr (by decide +kernel : zi 55 43 = some (.ishr, 1)) ?_
          obtain ⟨⟨g0, g1⟩, h⟩ := h
          refine Fr.iald (c := 65) (N := 1954) (by decide +kernel : zi 55 44 = some (.iaload, 1)) (by decide +kernel) (by decide) g0 g1 ?_
          refine Fr.ildn (by decide +kernel : zi 55 45 = some (.iload_n 2, 1)) rfl ?_
          refine Fr.iand (by decide +kernel : zi 55 46 = some (.iand, 1)) ?_
          refine Fr.if0 (q := 82) (by decide +kernel : zi 55 47 = some (.ifCond .ne 35, 3)) (by decide +kernel) (fun g9 => ?_) (fun g9 => ?_)
          · have h := h.1 g9
            exact Fr.retV (by decide +kernel : zi 55 82 = some (.return_, 1)) (by decide +kernel) h
          · have h := h.2 g9
            refine Fr.aldn (c := 65) (by decide +kernel : zi 55 50 = some (.aload_n 0, 1)) rfl ⟨by omega, by omega⟩ ?_
            refine Fr.gR (c := 64) (c2 := 66) (ci := 4) (k := 1) 1 (by decide +kernel : zi 55 51 = some (.getfield 11, 3)) (by decide +kernel) (by decide +kernel) (by decide +kernel) (by decide) rfl (fun q => q (64, 1, 66) (by decide +kernel)) ?_
            refine Fr.ildn (by decide +kernel : zi 55 54 = some (.iload_n 1, 1)) rfl ?_
            refine Fr.iconst (by decide +kernel : zi 55 55 = some (.iconst 5, 1)) (by decide) ?_
            refine Fr.ishr (by decide +kernel : zi 55 56 = some (.ishr, 1)) ?_
            refine Fr.dup2 (by decide +kernel : zi 55 57 = some (.dup2, 1)) ⟨rfl, rfl⟩ ?_
            obtain ⟨⟨g0, g1⟩, h⟩ := h
            refine Fr.iald (c := 65) (N := 1954) (by decide +kernel : zi 55 58 = some (.iaload, 1)) (by decide +kernel) (by decide) g0 g1 ?_
            refine Fr.ildn (by decide +kernel : zi 55 59 = some (.iload_n 2, 1)) rfl ?_
            refine Fr.ior (by decide +kernel : zi 55 60 = some (.ior, 1)) ?_
            obtain ⟨⟨g0, g1⟩, h⟩ := h
            refine Fr.iast (c := 65) (N := 1954) (by decide +kernel : zi 55 61 = some (.iastore, 1)) (by decide +kernel) (by decide) g0 g1 ?_
            refine Fr.aldn (c := 65) (by decide +kernel : zi 55 62 = some (.aload_n 0, 1)) rfl ⟨by omega, by omega⟩ ?_
            refine Fr.gR (c := 64) (c2 := 67) (ci := 4) (k := 2) 2 (by decide +kernel : zi 55 63 = some (.getfield 15, 3)) (by decide +kernel) (by decide +kernel) (by decide +kernel) (by decide) rfl (fun q => q (64, 2, 67) (by decide +kernel)) ?_
            refine Fr.aldn (c := 65) (by decide +kernel : zi 55 66 = some (.aload_n 0, 1)) rfl ⟨by omega, by omega⟩ ?_
            refine Fr.gI (c := 64) (ci := 4) (k := 4) (t := 0) 4 (by decide +kernel : zi 55 67 = some (.getfield 31, 3)) (by decide +kernel) (by decide +kernel) (by decide +kernel) (by decide) rfl ?_
            refine Fr.ildn (by decide +kernel : zi 55 70 = some (.iload_n 1, 1)) rfl ?_
            obtain ⟨⟨g0, g1⟩, h⟩ := h
            refine Fr.iast (c := 66) (N := 1440) (by decide +kernel : zi 55 71 = some (.iastore, 1)) (by decide +kernel) (by decide) g0 g1 ?_
            refine Fr.aldn (c := 65) (by decide +kernel : zi 55 72 = some (.aload_n 0, 1)) rfl ⟨by omega, by omega⟩ ?_
            refine Fr.dup (by decide +kernel : zi 55 73 = some (.dup, 1)) rfl ?_
            refine Fr.gI (c := 64) (ci := 4) (k := 4) (t := 0) 4 (by decide +kernel : zi 55 74 = some (.getfield 31, 3)) (by decide +kernel) (by decide +kernel) (by decide +kernel) (by decide) rfl ?_
            refine Fr.iconst (by decide +kernel : zi 55 77 = some (.iconst 1, 1)) (by decide) ?_
            refine Fr.iadd (by decide +kernel : zi 55 78 = some (.iadd, 1)) ?_
            refine Fr.pI (c := 64) (ci := 4) (k := 4) 4 (by decide +kernel : zi 55 79 = some (.putfield 31, 3)) (by decide +kernel) (by decide +kernel) (by decide +kernel) (by decide) rfl ?_
            exact Fr.retV (by decide +kernel : zi 55 82 = some (.return_, 1)) (by decide +kernel) h
        · have h := h.2 g9
          exact Fr.retV (by decide +kernel : zi 55 29 = some (.return_, 1)) (by decide +kernel) h
theorem e55 {xs : Nat → Int} {L : Nat} {d : Nat} {v1 : Int} {s : Pl} {Q : Option AV → Pl → Prop} (hd : 1 ≤ d) (k : Fr xs L T0 106 (d - 1) 55 0 [some (rf 65), some (it v1), none] [] s Q) : Ev xs L T0 106 d 55 [rf 65, it v1] s Q := Ev.of (by decide) _ rfl hd k
-- 56 X4_addRowed
theorem f56_0 {xs : Nat → Int} {L : Nat} {d : Nat} {v1 : Int} {s : Pl} {P : Pl → Prop} (h : Fr xs L T0 106 d 56 2 [some (rf 65), some (it v1), some (it 0)] [] s (qv P)) : Fr xs L T0 106 d 56 0 [some (rf 65), some (it v1), none] [] s (qv P) := by
  refine Fr.iconst (by decide +kernel : zi 56 0 = some (.iconst 0, 1)) (by decide) ?_
  refine Fr.istn (lv2 := [some (rf 65), some (it v1), some (it 0)]) (by decide +kernel : zi 56 1 = some (.istore_n 2, 1)) (Nat.le_of_ble_eq_true rfl) rfl ?_
  exact h
theorem e56 {xs : Nat → Int} {L : Nat} {d : Nat} {v1 : Int} {s : Pl} {Q : Option AV → Pl → Prop} (hd : 1 ≤ d) (k : Fr xs L T0 106 (d - 1) 56 0 [some (rf 65), some (it v1), none] [] s Q) : Ev xs L T0 106 d 56 [rf 65, it v1] s Q := Ev.of (by decide) _ rfl hd k
theorem f56_2 {xs : Nat → Int} {L : Nat} {d : Nat} {v1 : Int} {v2 : Int} {s : Pl} {P : Pl → Prop} (h : ((4 ≤ v2 → P s) ∧ (¬ (4 ≤ v2) → Ev xs L T0 106 d 46 [rf 58, it v1, it v2] s (qi fun r2 s1 => Ev xs L T0 106 d 55 [rf 65, it r2] s1 (qv fun s3 => Fr xs L T0 106 d 56 2 [some (rf 65), some (it v1), some (it (zw (v2 + 1)))] [] s3 (qv P)))))) : Fr xs L T0 106 d 56 2 [some (rf 65), some (it v1), some (it v2)] [] s (qv P) := by
  refine Fr.ildn (by decide +kernel : zi 56 2 = some (.iload_n 2, 1)) rfl ?_
  refine Fr.iconst (by decide +kernel : zi 56 3 = some (.iconst 4, 1)) (by decide) ?_
  refine Fr.if2 (q := 26) (by decide +kernel : zi 56 4 = some (.if_icmp .ge 22, 3)) (by decide +kernel) (fun g9 => ?_) (fun g9 => ?_)
  · have h := h.1 g9
    exact Fr.retV (by decide +kernel : zi 56 26 = some (.return_, 1)) (by decide +kernel) h
  · have h := h.2 g9
    refine Fr.aldn (c := 65) (by decide +kernel : zi 56 7 = some (.aload_n 0, 1)) rfl ⟨by omega, by omega⟩ ?_
    refine Fr.aldn (c := 65) (by decide +kernel : zi 56 8 = some (.aload_n 0, 1)) rfl ⟨by omega, by omega⟩ ?_
    refine Fr.gR (c := 64) (c2 := 58) (ci := 4) (k := 0) 0 (by decide +kernel : zi 56 9 = some (.getfield 21, 3)) (by decide +kernel) (by decide +kernel) (by decide +kernel) (by decide) rfl (fun q => q (64, 0, 58) (by decide +kernel)) ?_
    refine Fr.ildn (by decide +kernel : zi 56 12 = some (.iload_n 1, 1)) rfl ?_
    refine Fr.ildn (by decide +kernel : zi 56 13 = some (.iload_n 2, 1)) rfl ?_
    refine Fr.callI (y2 := 46) (na := 3) (as := [rf 58, it v1, it v2]) (rest := [rf 65]) (by decide +kernel : zi 56 14 = some (.invokevirtual 78, 3)) rfl (by decide +kernel) (by decide +kernel) rfl rfl (zok_V rfl (by decide) (by decide +kernel) (by decide +kernel) (zrecv_c (c := 57) (by decide) (by decide +kernel)) rfl (Nat.le_of_ble_eq_true rfl)) h (fun r2 s1 h => ?_)
    refine Fr.callV (y2 := 55) (na := 2) (as := [rf 65, it r2]) (rest := []) (by decide +kernel : zi 56 17 = some (.invokevirtual 44, 3)) rfl (by decide +kernel) (by decide +kernel) rfl rfl (zok_V rfl (by decide) (by decide +kernel) (by decide +kernel) (zrecv_c (c := 64) (by decide) (by decide +kernel)) rfl (Nat.le_of_ble_eq_true rfl)) h (fun s3 h => ?_)
    refine Fr.iinc (lv2 := [some (rf 65), some (it v1), some (it (zw (v2 + 1)))]) (by decide +kernel : zi 56 20 = some (.iinc 2 1, 3)) (Nat.le_of_ble_eq_true rfl) rfl rfl ?_
    refine Fr.goto (q := 2) (by decide +kernel : zi 56 23 = some (.goto (-21), 3)) (by decide +kernel) ?_
    exact h
-- 57 X4_addSwapped
theorem f57_0 {xs : Nat → Int} {L : Nat} {d : Nat} {v1 : Int} {s : Pl} {P : Pl → Prop} (h : Fr xs L T0 106 d 57 2 [some (rf 65), some (it v1), some (it 0), none] [] s (qv P)) : Fr xs L T0 106 d 57 0 [some (rf 65), some (it v1), none, none] [] s (qv P) := by
  refine Fr.iconst (by decide +kernel : zi 57 0 = some (.iconst 0, 1)) (by decide) ?_
  refine Fr.istn (lv2 := [some (rf 65), some (it v1), some (it 0), none]) (by decide +kernel : zi 57 1 = some (.istore_n 2, 1)) (Nat.le_of_ble_eq_true rfl) rfl ?_
  exact h
theorem e57 {xs : Nat → Int} {L : Nat} {d : Nat} {v1 : Int} {s : Pl} {Q : Option AV → Pl → Prop} (hd : 1 ≤ d) (k : Fr xs L T0 106 (d - 1) 57 0 [some (rf 65), some (it v1), none, none] [] s Q) : Ev xs L T0 106 d 57 [rf 65, it v1] s Q := Ev.of (by decide) _ rfl hd k
theorem f57_2 {xs : Nat → Int} {L : Nat} {d : Nat} {v1 : Int} {v2 : Int} {w3 : Option AV} {s : Pl} {P : Pl → Prop} (h : ((s 1 1 ≤ v2 → P s) ∧ (¬ (s 1 1 ≤ v2) → Fr xs L T0 106 d 57 18 [some (rf 65), some (it v1), some (it v2), some (it 0)] [] s (qv P)))) : Fr xs L T0 106 d 57 2 [some (rf 65), some (it v1), some (it v2), w3] [] s (qv P) := by
  refine Fr.ildn (by decide +kernel : zi 57 2 = some (.iload_n 2, 1)) rfl ?_
  refine Fr.aldn (c := 65) (by decide +kernel : zi 57 3 = some (.aload_n 0, 1)) rfl ⟨by omega, by omega⟩ ?_
  refine Fr.gR (c := 64) (c2 := 58) (ci := 4) (k := 0) 0 (by decide +kernel : zi 57 4 = some (.getfield 21, 3)) (by decide +kernel) (by decide +kernel) (by decide +kernel) (by decide) rfl (fun q => q (64, 0, 58) (by decide +kernel)) ?_
  refine Fr.gR (c := 57) (c2 := 2) (ci := 3) (k := 0) 0 (by decide +kernel : zi 57 7 = some (.getfield 81, 3)) (by decide +kernel) (by decide +kernel) (by decide +kernel) (by decide) rfl (fun q => q (57, 0, 2) (by decide +kernel)) ?_
  refine Fr.gI (c := 1) (ci := 0) (k := 1) (t := 0) 1 (by decide +kernel : zi 57 10 = some (.getfield 85, 3)) (by decide +kernel) (by decide +kernel) (by decide +kernel) (by decide) rfl ?_
  refine Fr.if2 (q := 81) (by decide +kernel : zi 57 13 = some (.if_icmp .ge 68, 3)) (by decide +kernel) (fun g9 => ?_) (fun g9 => ?_)
  · have h := h.1 g9
    exact Fr.retV (by decide +kernel : zi 57 81 = some (.return_, 1)) (by decide +kernel) h
  · have h := h.2 g9
    refine Fr.iconst (by decide +kernel : zi 57 16 = some (.iconst 0, 1)) (by decide) ?_
    refine Fr.istn (lv2 := [some (rf 65), some (it v1), some (it v2), some (it 0)]) (by decide +kernel : zi 57 17 = some (.istore_n 3, 1)) (Nat.le_of_ble_eq_true rfl) rfl ?_
    exact h
theorem f57_18 {xs : Nat → Int} {L : Nat} {d : Nat} {v1 : Int} {v2 : Int} {v3 : Int} {s : Pl} {P : Pl → Prop} (h : ((s 1 1 ≤ v3 → Fr xs L T0 106 d 57 75 [some (rf 65), some (it v1), some (it v2), some (it v3)] [] s (qv P)) ∧ (¬ (s 1 1 ≤ v3) → Ev xs L T0 106 d 43 [rf 58, it v2] s (qi fun r2 s1 => ((r2 = 0 → Fr xs L T0 106 d 57 75 [some (rf 65), some (it v1), some (it v2), some (it v3)] [] s1 (qv P)) ∧ (¬ (r2 = 0) → Ev xs L T0 106 d 47 [rf 58, it v2, it v3] s1 (qi fun r4 s3 => ((r4 = 0 → Fr xs L T0 106 d 57 69 [some (rf 65), some (it v1), some (it v2), some (it v3)] [] s3 (qv P)) ∧ (¬ (r4 = 0) → Ev xs L T0 106 d 45 [rf 58, it v1, it v2, it v3] s3 (qi fun r6 s5 => Ev xs L T0 106 d 55 [rf 65, it r6] s5 (qv fun s7 => Fr xs L T0 106 d 57 69 [some (rf 65), some (it v1), some (it v2), some (it v3)] [] s7 (qv P)))))))))))) : Fr xs L T0 106 d 57 18 [some (rf 65), some (it v1), some (it v2), some (it v3)] [] s (qv P) := by
  refine Fr.ildn (by decide +kernel : zi 57 18 = some (.iload_n 3, 1)) rfl ?_
  refine Fr.aldn (c := 65) (by decide +kernel : zi 57 19 = some (.aload_n 0, 1)) rfl ⟨by omega, by omega⟩ ?_
  refine Fr.gR (c := 64) (c2 := 58) (ci := 4) (k := 0) 0 (by decide +kernel : zi 57 20 = some (.getfield 21, 3)) (by decide +kernel) (by decide +kernel) (by decide +kernel) (by decide) rfl (fun q => q (64, 0, 58) (by decide +kernel)) ?_
  refine Fr.gR (c := 57) (c2 := 2) (ci := 3) (k := 0) 0 (by decide +kernel : zi 57 23 = some (.getfield 81, 3)) (by decide +kernel) (by decide +kernel) (by decide +kernel) (by decide) rfl (fun q => q (57, 0, 2) (by decide +kernel)) ?_
  refine Fr.gI (c := 1) (ci := 0) (k := 1) (t := 0) 1 (by decide +kernel : zi 57 26 = some (.getfield 85, 3)) (by decide +kernel) (by decide +kernel) (by decide +kernel) (by decide) rfl ?_
  refine Fr.if2 (q := 75) (by decide +kernel : zi 57 29 = some (.if_icmp .ge 46, 3)) (by decide +kernel) (fun g9 => ?_) (fun g9 => ?_)
  · have h := h.1 g9
    exact h
  · have h := h.2 g9
    refine Fr.aldn (c := 65) (by decide +kernel : zi 57 32 = some (.aload_n 0, 1)) rfl ⟨by omega, by omega⟩ ?_
    refine Fr.gR (c := 64) (c2 := 58) (ci := 4) (k := 0) 0 (by decide +kernel : zi 57 33 = some (.getfield 21, 3)) (by decide +kernel) (by decide +kernel) (by decide +kernel) (by decide) rfl (fun q => q (64, 0, 58) (by decide +kernel)) ?_
    refine Fr.ildn (by decide +kernel : zi 57 36 = some (.iload_n 2, 1)) rfl ?_
    refine Fr.callI (y2 := 43) (na := 2) (as := [rf 58, it v2]) (rest := []) (by decide +kernel : zi 57 37 = some (.invokevirtual 90, 3)) rfl (by decide +kernel) (by decide +kernel) rfl rfl (zok_V rfl (by decide) (by decide +kernel) (by decide +kernel) (zrecv_c (c := 57) (by decide) (by decide +kernel)) rfl (Nat.le_of_ble_eq_true rfl)) h (fun r2 s1 h => ?_)
    refine Fr.if0 (q := 75) (by decide +kernel : zi 57 40 = some (.ifCond .eq 35, 3)) (by decide +kernel) (fun g9 => ?_) (fun g9 => ?_)
    · have h := h.1 g9
      exact h
    · have h := h.2 g9
      refine Fr.aldn (c := 65) (by decide +kernel : zi 57 43 = some (.aload_n 0, 1)) rfl ⟨by omega, by omega⟩ ?_
      refine Fr.gR (c := 64) (c2 := 58) (ci := 4) (k := 0) 0 (by decide +kernel : zi 57 44 = some (.getfield 21, 3)) (by decide +kernel) (by decide +kernel) (by decide +kernel) (by decide) rfl (fun q => q (64, 0, 58) (by decide +kernel)) ?_
      refine Fr.ildn (by decide +kernel : zi 57 47 = some (.iload_n 2, 1)) rfl ?_
      refine Fr.ildn (by decide +kernel : zi 57 48 = some (.iload_n 3, 1)) rfl ?_
      refine Fr.callI (y2 := 47) (na := 3) (as := [rf 58, it v2, it v3]) (rest := []) (by decide +kernel : zi 57 49 = some (.invokevirtual 94, 3)) rfl (by decide +kernel) (by decide +kernel) rfl rfl (zok_V rfl (by decide) (by decide +kernel) (by decide +kernel) (zrecv_c (c := 57) (by decide) (by decide +kernel)) rfl (Nat.le_of_ble_eq_true rfl)) h (fun r4 s3 h => ?_)
      refine Fr.if0 (q := 69) (by decide +kernel : zi 57 52 = some (.ifCond .eq 17, 3)) (by decide +kernel) (fun g9 => ?_) (fun g9 => ?_)
      · have h := h.1 g9
        exact h
      · have h := h.2 g9
        refine Fr.aldn (c := 65) (by decide +kernel : zi 57 55 = some (.aload_n 0, 1)) rfl ⟨by omega, by omega⟩ ?_
        refine Fr.aldn (c := 65) (by decide +kernel : zi 57 56 = some (.aload_n 0, 1)) rfl ⟨by omega, by omega⟩ ?_
        refine Fr.gR (c := 64) (c2 := 58) (ci := 4) (k := 0) 0 (by decide +kernel : zi 57 57 = some (.getfield 21, 3)) (by decide +kernel) (by decide +kernel) (by decide +kernel) (by decide) rfl (fun q => q (64, 0, 58) (by decide +kernel)) ?_
        refine Fr.ildn (by decide +kernel : zi 57 60 = some (.iload_n 1, 1)) rfl ?_
        refine Fr.ildn (by decide +kernel : zi 57 61 = some (.iload_n 2, 1)) rfl ?_
        refine Fr.ildn (by decide +kernel : zi 57 62 = some (.iload_n 3, 1)) rfl ?_
        refine Fr.callI (y2 := 45) (na := 4) (as := [rf 58, it v1, it v2, it v3]) (rest := [rf 65]) (by decide +kernel : zi 57 63 = some (.invokevirtual 98, 3)) rfl (by decide +kernel) (by decide +kernel) rfl rfl (zok_V rfl (by decide) (by decide +kernel) (by decide +kernel) (zrecv_c (c := 57) (by decide) (by decide +kernel)) rfl (Nat.le_of_ble_eq_true rfl)) h (fun r6 s5 h => ?_)
        refine Fr.callV (y2 := 55) (na := 2) (as := [rf 65, it r6]) (rest := []) (by decide +kernel : zi 57 66 = some (.invokevirtual 44, 3)) rfl (by decide +kernel) (by decide +kernel) rfl rfl (zok_V rfl (by decide) (by decide +kernel) (by decide +kernel) (zrecv_c (c := 64) (by decide) (by decide +kernel)) rfl (Nat.le_of_ble_eq_true rfl)) h (fun s7 h => ?_)
        exact h
theorem f57_69 {xs : Nat → Int} {L : Nat} {d : Nat} {v1 : Int} {v2 : Int} {v3 : Int} {s : Pl} {P : Pl → Prop} (h : Fr xs L T0 106 d 57 18 [some (rf 65), some (it v1), some (it v2), some (it (zw (v3 + 1)))] [] s (qv P)) : Fr xs L T0 106 d 57 69 [some (rf 65), some (it v1), some (it v2), some (it v3)] [] s (qv P) := by
  refine Fr.iinc (lv2 := [some (rf 65), some (it v1), some (it v2), some (it (zw (v3 + 1)))]) (by decide +kernel : zi 57 69 = some (.iinc 3 1, 3)) (Nat.le_of_ble_eq_true rfl) rfl rfl ?_
  refine Fr.goto (q := 18) (by decide +kernel : zi 57 72 = some (.goto (-54), 3)) (by decide +kernel) ?_
  exact h
theorem f57_75 {xs : Nat → Int} {L : Nat} {d : Nat} {v1 : Int} {v2 : Int} {v3 : Int} {s : Pl} {P : Pl → Prop} (h : Fr xs L T0 106 d 57 2 [some (rf 65), some (it v1), some (it (zw (v2 + 1))), some (it v3)] [] s (qv P)) : Fr xs L T0 106 d 57 75 [some (rf 65), some (it v1), some (it v2), some (it v3)] [] s (qv P) := by
  refine Fr.iinc (lv2 := [some (rf 65), some (it v1), some (it (zw (v2 + 1))), some (it v3)]) (by decide +kernel : zi 57 75 = some (.iinc 2 1, 3)) (Nat.le_of_ble_eq_true rfl) rfl rfl ?_
  refine Fr.goto (q := 2) (by decide +kernel : zi 57 78 = some (.goto (-76), 3)) (by decide +kernel) ?_
  exact h
-- 58 X4_comeTo
theorem f58_0 {xs : Nat → Int} {L : Nat} {d : Nat} {v1 : Int} {v2 : Int} {s : Pl} {P : Pl → Prop} (h : ((¬ v2 = 1 → Fr xs L T0 106 d 58 62 [some (rf 65), some (it v1), some (it v2), some (it 0), none, none] [] s (qv P)) ∧ (¬ (¬ v2 = 1) → Ev xs L T0 106 d 246 [rf 65, it v1] s (qi fun r2 s1 => Ev xs L T0 106 d 246 [rf 65, it (zw (v1 - 1))] s1 (qi fun r4 s3 => Fr xs L T0 106 d 58 20 [some (rf 65), some (it v1), some (it v2), some (it r2), some (it r4), none] [] s3 (qv P)))))) : Fr xs L T0 106 d 58 0 [some (rf 65), some (it v1), some (it v2), none, none, none] [] s (qv P) := by
  refine Fr.ildn (by decide +kernel : zi 58 0 = some (.iload_n 2, 1)) rfl ?_
  refine Fr.iconst (by decide +kernel : zi 58 1 = some (.iconst 1, 1)) (by decide) ?_
  refine Fr.if2 (q := 60) (by decide +kernel : zi 58 2 = some (.if_icmp .ne 58, 3)) (by decide +kernel) (fun g9 => ?_) (fun g9 => ?_)
  · have h := h.1 g9
    refine Fr.iconst (by decide +kernel : zi 58 60 = some (.iconst 0, 1)) (by decide) ?_
    refine Fr.istn (lv2 := [some (rf 65), some (it v1), some (it v2), some (it 0), none, none]) (by decide +kernel : zi 58 61 = some (.istore_n 3, 1)) (Nat.le_of_ble_eq_true rfl) rfl ?_
    exact h
  · have h := h.2 g9
    refine Fr.aldn (c := 65) (by decide +kernel : zi 58 5 = some (.aload_n 0, 1)) rfl ⟨by omega, by omega⟩ ?_
    refine Fr.ildn (by decide +kernel : zi 58 6 = some (.iload_n 1, 1)) rfl ?_
    refine Fr.callI (y2 := 246) (na := 2) (as := [rf 65, it v1]) (rest := []) (by decide +kernel : zi 58 7 = some (.invokevirtual 52, 3)) rfl (by decide +kernel) (by decide +kernel) rfl rfl (zok_V rfl (by decide) (by decide +kernel) (by decide +kernel) (zrecv_c (c := 64) (by decide) (by decide +kernel)) rfl (Nat.le_of_ble_eq_true rfl)) h (fun r2 s1 h => ?_)
    refine Fr.istn (lv2 := [some (rf 65), some (it v1), some (it v2), some (it r2), none, none]) (by decide +kernel : zi 58 10 = some (.istore_n 3, 1)) (Nat.le_of_ble_eq_true rfl) rfl ?_
    refine Fr.aldn (c := 65) (by decide +kernel : zi 58 11 = some (.aload_n 0, 1)) rfl ⟨by omega, by omega⟩ ?_
    refine Fr.ildn (by decide +kernel : zi 58 12 = some (.iload_n 1, 1)) rfl ?_
    refine Fr.iconst (by decide +kernel : zi 58 13 = some (.iconst 1, 1)) (by decide) ?_
    refine Fr.isub (by decide +kernel : zi 58 14 = some (.isub, 1)) ?_
    refine Fr.callI (y2 := 246) (na := 2) (as := [rf 65, it (zw (v1 - 1))]) (rest := []) (by decide +kernel : zi 58 15 = some (.invokevirtual 52, 3)) rfl (by decide +kernel) (by decide +kernel) rfl rfl (zok_V rfl (by decide) (by decide +kernel) (by decide +kernel) (zrecv_c (c := 64) (by decide) (by decide +kernel)) rfl (Nat.le_of_ble_eq_true rfl)) h (fun r4 s3 h => ?_)
    refine Fr.ist (lv2 := [some (rf 65), some (it v1), some (it v2), some (it r2), some (it r4), none]) (by decide +kernel : zi 58 18 = some (.istore 4, 2)) (Nat.le_of_ble_eq_true rfl) rfl ?_
    exact h
theorem e58 {xs : Nat → Int} {L : Nat} {d : Nat} {v1 : Int} {v2 : Int} {s : Pl} {Q : Option AV → Pl → Prop} (hd : 1 ≤ d) (k : Fr xs L T0 106 (d - 1) 58 0 [some (rf 65), some (it v1), some (it v2), none, none, none] [] s Q) : Ev xs L T0 106 d 58 [rf 65, it v1, it v2] s Q := Ev.of (by decide) _ rfl hd k
theorem f58_20 {xs : Nat → Int} {L : Nat} {d : Nat} {v1 : Int} {v2 : Int} {v3 : Int} {v4 : Int} {w5 : Option AV} {s : Pl} {P : Pl → Prop} (h : ((v3 ≤ v4 → P s) ∧ (¬ (v3 ≤ v4) → (0 ≤ v4 ∧ v4 < 1440) ∧ Ev xs L T0 106 d 42 [rf 58, it (zand (s 66 v4) 65535)] s (qv fun s1 => Ev xs L T0 106 d 57 [rf 65, it (zand (s 66 v4) 65535)] s1 (qv fun s2 => Fr xs L T0 106 d 58 20 [some (rf 65), some (it v1), some (it v2), some (it v3), some (it (zw (v4 + 1))), some (it (zand (s 66 v4) 65535))] [] s2 (qv P)))))) : Fr xs L T0 106 d 58 20 [some (rf 65), some (it v1), some (it v2), some (it v3), some (it v4), w5] [] s (qv P) := by
  refine Fr.ild (by decide +kernel : zi 58 20 = some (.iload 4, 2)) rfl ?_
  refine Fr.ildn (by decide +kernel : zi 58 22 = some (.iload_n 3, 1)) rfl ?_
  refine Fr.if2 (q := 59) (by decide +kernel : zi 58 23 = some (.if_icmp .ge 36, 3)) (by decide +kernel) (fun g9 => ?_) (fun g9 => ?_)
  · have h := h.1 g9
    exact Fr.retV (by decide +kernel : zi 58 59 = some (.return_, 1)) (by decide +kernel) h
  · have h := h.2 g9
    refine Fr.aldn (c := 65) (by decide +kernel : zi 58 26 = some (.aload_n 0, 1)) rfl ⟨by omega, by omega⟩ ?_
    refine Fr.gR (c := 64) (c2 := 67) (ci := 4) (k := 2) 2 (by decide +kernel : zi 58 27 = some (.getfield 15, 3)) (by decide +kernel) (by decide +kernel) (by decide +kernel) (by decide) rfl (fun q => q (64, 2, 67) (by decide +kernel)) ?_
    refine Fr.ild (by decide +kernel : zi 58 30 = some (.iload 4, 2)) rfl ?_
    obtain ⟨⟨g0, g1⟩, h⟩ := h
    refine Fr.iald (c := 66) (N := 1440) (by decide +kernel : zi 58 32 = some (.iaload, 1)) (by decide +kernel) (by decide) g0 g1 ?_
    refine Fr.ldc (v := it 65535) (by decide +kernel : zi 58 33 = some (.ldc 102, 2)) (by decide +kernel) ?_
    refine Fr.iand (by decide +kernel : zi 58 35 = some (.iand, 1)) ?_
    refine Fr.ist (lv2 := [some (rf 65), some (it v1), some (it v2), some (it v3), some (it v4), some (it (zand (s 66 v4) 65535))]) (by decide +kernel : zi 58 36 = some (.istore 5, 2)) (Nat.le_of_ble_eq_true rfl) rfl ?_
    refine Fr.aldn (c := 65) (by decide +kernel : zi 58 38 = some (.aload_n 0, 1)) rfl ⟨by omega, by omega⟩ ?_
    refine Fr.gR (c := 64) (c2 := 58) (ci := 4) (k := 0) 0 (by decide +kernel : zi 58 39 = some (.getfield 21, 3)) (by decide +kernel) (by decide +kernel) (by decide +kernel) (by decide) rfl (fun q => q (64, 0, 58) (by decide +kernel)) ?_
    refine Fr.ild (by decide +kernel : zi 58 42 = some (.iload 5, 2)) rfl ?_
    refine Fr.callV (y2 := 42) (na := 2) (as := [rf 58, it (zand (s 66 v4) 65535)]) (rest := []) (by decide +kernel : zi 58 44 = some (.invokevirtual 56, 3)) rfl (by decide +kernel) (by decide +kernel) rfl rfl (zok_V rfl (by decide) (by decide +kernel) (by decide +kernel) (zrecv_c (c := 57) (by decide) (by decide +kernel)) rfl (Nat.le_of_ble_eq_true rfl)) h (fun s1 h => ?_)
    refine Fr.aldn (c := 65) (by decide +kernel : zi 58 47 = some (.aload_n 0, 1)) rfl ⟨by omega, by omega⟩ ?_
    refine Fr.ild (by decide +kernel : zi 58 48 = some (.iload 5, 2)) rfl ?_
    refine Fr.callV (y2 := 57) (na := 2) (as := [rf 65, it (zand (s 66 v4) 65535)]) (rest := []) (by decide +kernel : zi 58 50 = some (.invokevirtual 65, 3)) rfl (by decide +kernel) (by decide +kernel) rfl rfl (zok_V rfl (by decide) (by decide +kernel) (by decide +kernel) (zrecv_c (c := 64) (by decide) (by decide +kernel)) rfl (Nat.le_of_ble_eq_true rfl)) h (fun s2 h => ?_)
    refine Fr.iinc (lv2 := [some (rf 65), some (it v1), some (it v2), some (it v3), some (it (zw (v4 + 1))), some (it (zand (s 66 v4) 65535))]) (by decide +kernel : zi 58 53 = some (.iinc 4 1, 3)) (Nat.le_of_ble_eq_true rfl) rfl rfl ?_
    refine Fr.goto (q := 20) (by decide +kernel : zi 58 56 = some (.goto (-36), 3)) (by decide +kernel) ?_
    exact h
theorem f58_62 {xs : Nat → Int} {L : Nat} {d : Nat} {v1 : Int} {v2 : Int} {v3 : Int} {w4 : Option AV} {w5 : Option AV} {s : Pl} {P : Pl → Prop} (h : ((4 ≤ v3 → P s) ∧ (¬ (4 ≤ v3) → Fr xs L T0 106 d 58 70 [some (rf 65), some (it v1), some (it v2), some (it v3), some (it 0), w5] [] s (qv P)))) : Fr xs L T0 106 d 58 62 [some (rf 65), some (it v1), some (it v2), some (it v3), w4, w5] [] s (qv P) := by
  refine Fr.ildn (by decide +kernel : zi 58 62 = some (.iload_n 3, 1)) rfl ?_
  refine Fr.iconst (by decide +kernel : zi 58 63 = some (.iconst 4, 1)) (by decide) ?_
  refine Fr.if2 (q := 141) (by decide +kernel : zi 58 64 = some (.if_icmp .ge 77, 3)) (by decide +kernel) (fun g9 => ?_) (fun g9 => ?_)
  · have h := h.1 g9
    exact Fr.retV (by decide +kernel : zi 58 141 = some (.return_, 1)) (by decide +kernel) h
  · have h := h.2 g9
    refine Fr.iconst (by decide +kernel : zi 58 67 = some (.iconst 0, 1)) (by decide) ?_
    refine Fr.ist (lv2 := [some (rf 65), some (it v1), some (it v2), some (it v3), some (it 0), w5]) (by decide +kernel : zi 58 68 = some (.istore 4, 2)) (Nat.le_of_ble_eq_true rfl) rfl ?_
    exact h
theorem f58_70 {xs : Nat → Int} {L : Nat} {d : Nat} {v1 : Int} {v2 : Int} {v3 : Int} {v4 : Int} {w5 : Option AV} {s : Pl} {P : Pl → Prop} (h : ((4 ≤ v4 → Fr xs L T0 106 d 58 62 [some (rf 65), some (it v1), some (it v2), some (it (zw (v3 + 1))), some (it v4), w5] [] s (qv P)) ∧ (¬ (4 ≤ v4) → ((¬ v2 = 0 → Fr xs L T0 106 d 58 98 [some (rf 65), some (it v1), some (it v2), some (it v3), some (it v4), w5] [it 1] s (qv P)) ∧ (¬ (¬ v2 = 0) → (0 ≤ zw ((zw (4 * v3)) + v4) ∧ zw ((zw (4 * v3)) + v4) < 16) ∧ Fr xs L T0 106 d 58 98 [some (rf 65), some (it v1), some (it v2), some (it v3), some (it v4), w5] [it (s 59 (zw ((zw (4 * v3)) + v4)))] s (qv P)))))) : Fr xs L T0 106 d 58 70 [some (rf 65), some (it v1), some (it v2), some (it v3), some (it v4), w5] [] s (qv P) := by
  refine Fr.ild (by decide +kernel : zi 58 70 = some (.iload 4, 2)) rfl ?_
  refine Fr.iconst (by decide +kernel : zi 58 72 = some (.iconst 4, 1)) (by decide) ?_
  refine Fr.if2 (q := 135) (by decide +kernel : zi 58 73 = some (.if_icmp .ge 62, 3)) (by decide +kernel) (fun g9 => ?_) (fun g9 => ?_)
  · have h := h.1 g9
    refine Fr.iinc (lv2 := [some (rf 65), some (it v1), some (it v2), some (it (zw (v3 + 1))), some (it v4), w5]) (by decide +kernel : zi 58 135 = some (.iinc 3 1, 3)) (Nat.le_of_ble_eq_true rfl) rfl rfl ?_
    refine Fr.goto (q := 62) (by decide +kernel : zi 58 138 = some (.goto (-76), 3)) (by decide +kernel) ?_
    exact h
  · have h := h.2 g9
    refine Fr.ildn (by decide +kernel : zi 58 76 = some (.iload_n 2, 1)) rfl ?_
    refine Fr.if0 (q := 97) (by decide +kernel : zi 58 77 = some (.ifCond .ne 20, 3)) (by decide +kernel) (fun g9 => ?_) (fun g9 => ?_)
    · have h := h.1 g9
      refine Fr.iconst (by decide +kernel : zi 58 97 = some (.iconst 1, 1)) (by decide) ?_
      exact h
    · have h := h.2 g9
      refine Fr.aldn (c := 65) (by decide +kernel : zi 58 80 = some (.aload_n 0, 1)) rfl ⟨by omega, by omega⟩ ?_
      refine Fr.gR (c := 64) (c2 := 58) (ci := 4) (k := 0) 0 (by decide +kernel : zi 58 81 = some (.getfield 21, 3)) (by decide +kernel) (by decide +kernel) (by decide +kernel) (by decide) rfl (fun q => q (64, 0, 58) (by decide +kernel)) ?_
      refine Fr.gR (c := 57) (c2 := 60) (ci := 3) (k := 3) 3 (by decide +kernel : zi 58 84 = some (.getfield 103, 3)) (by decide +kernel) (by decide +kernel) (by decide +kernel) (by decide) rfl (fun q => q (57, 3, 60) (by decide +kernel)) ?_
      refine Fr.iconst (by decide +kernel : zi 58 87 = some (.iconst 4, 1)) (by decide) ?_
      refine Fr.ildn (by decide +kernel : zi 58 88 = some (.iload_n 3, 1)) rfl ?_
      refine Fr.imul (by decide +kernel : zi 58 89 = some (.imul, 1)) ?_
      refine Fr.ild (by decide +kernel : zi 58 90 = some (.iload 4, 2)) rfl ?_
      refine Fr.iadd (by decide +kernel : zi 58 92 = some (.iadd, 1)) ?_
      obtain ⟨⟨g0, g1⟩, h⟩ := h
      refine Fr.iald (c := 59) (N := 16) (by decide +kernel : zi 58 93 = some (.iaload, 1)) (by decide +kernel) (by decide) g0 g1 ?_
      refine Fr.goto (q := 98) (by decide +kernel : zi 58 94 = some (.goto 4, 3)) (by decide +kernel) ?_
      exact h
theorem f58_98 {xs : Nat → Int} {L : Nat} {d : Nat} {v1 : Int} {v2 : Int} {v3 : Int} {v4 : Int} {w5 : Option AV} {vs0 : Int} {s : Pl} {P : Pl → Prop} (h : ((v3 = v4 → Fr xs L T0 106 d 58 129 [some (rf 65), some (it v1), some (it v2), some (it v3), some (it v4), some (it vs0)] [] s (qv P)) ∧ (¬ (v3 = v4) → ((vs0 < 1 → Fr xs L T0 106 d 58 129 [some (rf 65), some (it v1), some (it v2), some (it v3), some (it v4), some (it vs0)] [] s (qv P)) ∧ (¬ (vs0 < 1) → ((v1 < vs0 → Fr xs L T0 106 d 58 129 [some (rf 65), some (it v1), some (it v2), some (it v3), some (it v4), some (it vs0)] [] s (qv P)) ∧ (¬ (v1 < vs0) → Ev xs L T0 106 d 59 [rf 65, it v3, it v4, it (zw (v1 - vs0))] s (qv fun s1 => Fr xs L T0 106 d 58 129 [some (rf 65), some (it v1), some (it v2), some (it v3), some (it v4), some (it vs0)] [] s1 (qv P))))))))) : Fr xs L T0 106 d 58 98 [some (rf 65), some (it v1), some (it v2), some (it v3), some (it v4), w5] [it vs0] s (qv P) := by
  refine Fr.ist (lv2 := [some (rf 65), some (it v1), some (it v2), some (it v3), some (it v4), some (it vs0)]) (by decide +kernel : zi 58 98 = some (.istore 5, 2)) (Nat.le_of_ble_eq_true rfl) rfl ?_
  refine Fr.ildn (by decide +kernel : zi 58 100 = some (.iload_n 3, 1)) rfl ?_
  refine Fr.ild (by decide +kernel : zi 58 101 = some (.iload 4, 2)) rfl ?_
  refine Fr.if2 (q := 129) (by decide +kernel : zi 58 103 = some (.if_icmp .eq 26, 3)) (by decide +kernel) (fun g9 => ?_) (fun g9 => ?_)
  · have h := h.1 g9
    exact h
  · have h := h.2 g9
    refine Fr.ild (by decide +kernel : zi 58 106 = some (.iload 5, 2)) rfl ?_
    refine Fr.iconst (by decide +kernel : zi 58 108 = some (.iconst 1, 1)) (by decide) ?_
    refine Fr.if2 (q := 129) (by decide +kernel : zi 58 109 = some (.if_icmp .lt 20, 3)) (by decide +kernel) (fun g9 => ?_) (fun g9 => ?_)
    · have h := h.1 g9
      exact h
    · have h := h.2 g9
      refine Fr.ild (by decide +kernel : zi 58 112 = some (.iload 5, 2)) rfl ?_
      refine Fr.ildn (by decide +kernel : zi 58 114 = some (.iload_n 1, 1)) rfl ?_
      refine Fr.if2 (q := 129) (by decide +kernel : zi 58 115 = some (.if_icmp .gt 14, 3)) (by decide +kernel) (fun g9 => ?_) (fun g9 => ?_)
      · have h := h.1 g9
        exact h
      · have h := h.2 g9
        refine Fr.aldn (c := 65) (by decide +kernel : zi 58 118 = some (.aload_n 0, 1)) rfl ⟨by omega, by omega⟩ ?_
        refine Fr.ildn (by decide +kernel : zi 58 119 = some (.iload_n 3, 1)) rfl ?_
        refine Fr.ild (by decide +kernel : zi 58 120 = some (.iload 4, 2)) rfl ?_
        refine Fr.ildn (by decide +kernel : zi 58 122 = some (.iload_n 1, 1)) rfl ?_
        refine Fr.ild (by decide +kernel : zi 58 123 = some (.iload 5, 2)) rfl ?_
        refine Fr.isub (by decide +kernel : zi 58 125 = some (.isub, 1)) ?_
        refine Fr.callV (y2 := 59) (na := 4) (as := [rf 65, it v3, it v4, it (zw (v1 - vs0))]) (rest := []) (by decide +kernel : zi 58 126 = some (.invokevirtual 106, 3)) rfl (by decide +kernel) (by decide +kernel) rfl rfl (zok_V rfl (by decide) (by decide +kernel) (by decide +kernel) (zrecv_c (c := 64) (by decide) (by decide +kernel)) rfl (Nat.le_of_ble_eq_true rfl)) h (fun s1 h => ?_)
        exact h
theorem f58_129 {xs : Nat → Int} {L : Nat} {d : Nat} {v1 : Int} {v2 : Int} {v3 : Int} {v4 : Int} {v5 : Int} {s : Pl} {P : Pl → Prop} (h : Fr xs L T0 106 d 58 70 [some (rf 65), some (it v1), some (it v2), some (it v3), some (it (zw (v4 + 1))), some (it v5)] [] s (qv P)) : Fr xs L T0 106 d 58 129 [some (rf 65), some (it v1), some (it v2), some (it v3), some (it v4), some (it v5)] [] s (qv P) := by
  refine Fr.iinc (lv2 := [some (rf 65), some (it v1), some (it v2), some (it v3), some (it (zw (v4 + 1))), some (it v5)]) (by decide +kernel : zi 58 129 = some (.iinc 4 1, 3)) (Nat.le_of_ble_eq_true rfl) rfl rfl ?_
  refine Fr.goto (q := 70) (by decide +kernel : zi 58 132 = some (.goto (-62), 3)) (by decide +kernel) ?_
  exact h
-- 59 X4_addRowedFrom
theorem f59_0 {xs : Nat → Int} {L : Nat} {d : Nat} {v1 : Int} {v2 : Int} {v3 : Int} {s : Pl} {P : Pl → Prop} (h : Ev xs L T0 106 d 246 [rf 65, it (zw (v3 + 1))] s (qi fun r2 s1 => Ev xs L T0 106 d 246 [rf 65, it v3] s1 (qi fun r4 s3 => Fr xs L T0 106 d 59 16 [some (rf 65), some (it v1), some (it v2), some (it v3), some (it r2), some (it r4), none] [] s3 (qv P)))) : Fr xs L T0 106 d 59 0 [some (rf 65), some (it v1), some (it v2), some (it v3), none, none, none] [] s (qv P) := by
  refine Fr.aldn (c := 65) (by decide +kernel : zi 59 0 = some (.aload_n 0, 1)) rfl ⟨by omega, by omega⟩ ?_
  refine Fr.ildn (by decide +kernel : zi 59 1 = some (.iload_n 3, 1)) rfl ?_
  refine Fr.iconst (by decide +kernel : zi 59 2 = some (.iconst 1, 1)) (by decide) ?_
  refine Fr.iadd (by decide +kernel : zi 59 3 = some (.iadd, 1)) ?_
  refine Fr.callI (y2 := 246) (na := 2) (as := [rf 65, it (zw (v3 + 1))]) (rest := []) (by decide +kernel : zi 59 4 = some (.invokevirtual 52, 3)) rfl (by decide +kernel) (by decide +kernel) rfl rfl (zok_V rfl (by decide) (by decide +kernel) (by decide +kernel) (zrecv_c (c := 64) (by decide) (by decide +kernel)) rfl (Nat.le_of_ble_eq_true rfl)) h (fun r2 s1 h => ?_)
  refine Fr.ist (lv2 := [some (rf 65), some (it v1), some (it v2), some (it v3), some (it r2), none, none]) (by decide +kernel : zi 59 7 = some (.istore 4, 2)) (Nat.le_of_ble_eq_true rfl) rfl ?_
  refine Fr.aldn (c := 65) (by decide +kernel : zi 59 9 = some (.aload_n 0, 1)) rfl ⟨by omega, by omega⟩ ?_
  refine Fr.ildn (by decide +kernel : zi 59 10 = some (.iload_n 3, 1)) rfl ?_
  refine Fr.callI (y2 := 246) (na := 2) (as := [rf 65, it v3]) (rest := []) (by decide +kernel : zi 59 11 = some (.invokevirtual 52, 3)) rfl (by decide +kernel) (by decide +kernel) rfl rfl (zok_V rfl (by decide) (by decide +kernel) (by decide +kernel) (zrecv_c (c := 64) (by decide) (by decide +kernel)) rfl (Nat.le_of_ble_eq_true rfl)) h (fun r4 s3 h => ?_)
  refine Fr.ist (lv2 := [some (rf 65), some (it v1), some (it v2), some (it v3), some (it r2), some (it r4), none]) (by decide +kernel : zi 59 14 = some (.istore 5, 2)) (Nat.le_of_ble_eq_true rfl) rfl ?_
  exact h
theorem e59 {xs : Nat → Int} {L : Nat} {d : Nat} {v1 : Int} {v2 : Int} {v3 : Int} {s : Pl} {Q : Option AV → Pl → Prop} (hd : 1 ≤ d) (k : Fr xs L T0 106 (d - 1) 59 0 [some (rf 65), some (it v1), some (it v2), some (it v3), none, none, none] [] s Q) : Ev xs L T0 106 d 59 [rf 65, it v1, it v2, it v3] s Q := Ev.of (by decide) _ rfl hd k
theorem f59_16 {xs : Nat → Int} {L : Nat} {d : Nat} {v1 : Int} {v2 : Int} {v3 : Int} {v4 : Int} {v5 : Int} {w6 : Option AV} {s : Pl} {P : Pl → Prop} (h : ((v4 ≤ v5 → P s) ∧ (¬ (v4 ≤ v5) → (0 ≤ v5 ∧ v5 < 1440) ∧ ((¬ zand (zand (s 66 v5) 65535) 3 = v1 → Fr xs L T0 106 d 59 53 [some (rf 65), some (it v1), some (it v2), some (it v3), some (it v4), some (it v5), some (it (zand (s 66 v5) 65535))] [] s (qv P)) ∧ (¬ (¬ zand (zand (s 66 v5) 65535) 3 = v1) → Ev xs L T0 106 d 55 [rf 65, it (zw ((zw ((zand (s 66 v5) 65535) - v1)) + v2))] s (qv fun s1 => Fr xs L T0 106 d 59 53 [some (rf 65), some (it v1), some (it v2), some (it v3), some (it v4), some (it v5), some (it (zand (s 66 v5) 65535))] [] s1 (qv P))))))) : Fr xs L T0 106 d 59 16 [some (rf 65), some (it v1), some (it v2), some (it v3), some (it v4), some (it v5), w6] [] s (qv P) := by
  refine Fr.ild (by decide +kernel : zi 59 16 = some (.iload 5, 2)) rfl ?_
  refine Fr.ild (by decide +kernel : zi 59 18 = some (.iload 4, 2)) rfl ?_
  refine Fr.if2 (q := 59) (by decide +kernel : zi 59 20 = some (.if_icmp .ge 39, 3)) (by decide +kernel) (fun g9 => ?_) (fun g9 => ?_)
  · have h := h.1 g9
    exact Fr.retV (by decide +kernel : zi 59 59 = some (.return_, 1)) (by decide +kernel) h
  · have h := h.2 g9
    refine Fr.aldn (c := 65) (by decide +kernel : zi 59 23 = some (.aload_n 0, 1)) rfl ⟨by omega, by omega⟩ ?_
    refine Fr.gR (c := 64) (c2 := 67) (ci := 4) (k := 2) 2 (by decide +kernel : zi 59 24 = some (.getfield 15, 3)) (by decide +kernel) (by decide +kernel) (by decide +kernel) (by decide) rfl (fun q => q (64, 2, 67) (by decide +kernel)) ?_
    refine Fr.ild (by decide +kernel : zi 59 27 = some (.iload 5, 2)) rfl ?_
    obtain ⟨⟨g0, g1⟩, h⟩ := h
    refine Fr.iald (c := 66) (N := 1440) (by decide +kernel : zi 59 29 = some (.iaload, 1)) (by decide +kernel) (by decide) g0 g1 ?_
    refine Fr.ldc (v := it 65535) (by decide +kernel : zi 59 30 = some (.ldc 102, 2)) (by decide +kernel) ?_
    refine Fr.iand (by decide +kernel : zi 59 32 = some (.iand, 1)) ?_
    refine Fr.ist (lv2 := [some (rf 65), some (it v1), some (it v2), some (it v3), some (it v4), some (it v5), some (it (zand (s 66 v5) 65535))]) (by decide +kernel : zi 59 33 = some (.istore 6, 2)) (Nat.le_of_ble_eq_true rfl) rfl ?_
    refine Fr.ild (by decide +kernel : zi 59 35 = some (.iload 6, 2)) rfl ?_
    refine Fr.iconst (by decide +kernel : zi 59 37 = some (.iconst 3, 1)) (by decide) ?_
    refine Fr.iand (by decide +kernel : zi 59 38 = some (.iand, 1)) ?_
    refine Fr.ildn (by decide +kernel : zi 59 39 = some (.iload_n 1, 1)) rfl ?_
    refine Fr.if2 (q := 53) (by decide +kernel : zi 59 40 = some (.if_icmp .ne 13, 3)) (by decide +kernel) (fun g9 => ?_) (fun g9 => ?_)
    · have h := h.1 g9
      exact h
    · have h := h.2 g9
      refine Fr.aldn (c := 65) (by decide +kernel : zi 59 43 = some (.aload_n 0, 1)) rfl ⟨by omega, by omega⟩ ?_
      refine Fr.ild (by decide +kernel : zi 59 44 = some (.iload 6, 2)) rfl ?_
      refine Fr.ildn (by decide +kernel : zi 59 46 = some (.iload_n 1, 1)) rfl ?_
      refine Fr.isub (by decide +kernel : zi 59 47 = some (.isub, 1)) ?_
      refine Fr.ildn (by decide +kernel : zi 59 48 = some (.iload_n 2, 1)) rfl ?_
      refine Fr.iadd (by decide +kernel : zi 59 49 = some (.iadd, 1)) ?_
      refine Fr.callV (y2 := 55) (na := 2) (as := [rf 65, it (zw ((zw ((zand (s 66 v5) 65535) - v1)) + v2))]) (rest := []) (by decide +kernel : zi 59 50 = some (.invokevirtual 44, 3)) rfl (by decide +kernel) (by decide +kernel) rfl rfl (zok_V rfl (by decide) (by decide +kernel) (by decide +kernel) (zrecv_c (c := 64) (by decide) (by decide +kernel)) rfl (Nat.le_of_ble_eq_true rfl)) h (fun s1 h => ?_)
      exact h
theorem f59_53 {xs : Nat → Int} {L : Nat} {d : Nat} {v1 : Int} {v2 : Int} {v3 : Int} {v4 : Int} {v5 : Int} {v6 : Int} {s : Pl} {P : Pl → Prop} (h : Fr xs L T0 106 d 59 16 [some (rf 65), some (it v1), some (it v2), some (it v3), some (it v4), some (it (zw (v5 + 1))), some (it v6)] [] s (qv P)) : Fr xs L T0 106 d 59 53 [some (rf 65), some (it v1), some (it v2), some (it v3), some (it v4), some (it v5), some (it v6)] [] s (qv P) := by
  refine Fr.iinc (lv2 := [some (rf 65), some (it v1), some (it v2), some (it v3), some (it v4), some (it (zw (v5 + 1))), some (it v6)]) (by decide +kernel : zi 59 53 = some (.iinc 5 1, 3)) (Nat.le_of_ble_eq_true rfl) rfl rfl ?_
  refine Fr.goto (q := 16) (by decide +kernel : zi 59 56 = some (.goto (-40), 3)) (by decide +kernel) ?_
  exact h
-- 60 X4_least
theorem f60_0 {xs : Nat → Int} {L : Nat} {d : Nat} {v1 : Int} {s : Pl} {P : Int → Pl → Prop} (h : Fr xs L T0 106 d 60 2 [some (rf 65), some (it v1), some (it 0), none, none] [] s (qi P)) : Fr xs L T0 106 d 60 0 [some (rf 65), some (it v1), none, none, none] [] s (qi P) := by
  refine Fr.iconst (by decide +kernel : zi 60 0 = some (.iconst 0, 1)) (by decide) ?_
  refine Fr.istn (lv2 := [some (rf 65), some (it v1), some (it 0), none, none]) (by decide +kernel : zi 60 1 = some (.istore_n 2, 1)) (Nat.le_of_ble_eq_true rfl) rfl ?_
  exact h
theorem e60 {xs : Nat → Int} {L : Nat} {d : Nat} {v1 : Int} {s : Pl} {Q : Option AV → Pl → Prop} (hd : 1 ≤ d) (k : Fr xs L T0 106 (d - 1) 60 0 [some (rf 65), some (it v1), none, none, none] [] s Q) : Ev xs L T0 106 d 60 [rf 65, it v1] s Q := Ev.of (by decide) _ rfl hd k
theorem f60_2 {xs : Nat → Int} {L : Nat} {d : Nat} {v1 : Int} {v2 : Int} {w3 : Option AV} {w4 : Option AV} {s : Pl} {P : Int → Pl → Prop} (h : ((s 64 5 ≤ v2 → P (-1) s) ∧ (¬ (s 64 5 ≤ v2) → Ev xs L T0 106 d 246 [rf 65, it (zw (v2 + 1))] s (qi fun r2 s1 => Ev xs L T0 106 d 246 [rf 65, it v2] s1 (qi fun r4 s3 => Fr xs L T0 106 d 60 25 [some (rf 65), some (it v1), some (it v2), some (it r2), some (it r4)] [] s3 (qi P)))))) : Fr xs L T0 106 d 60 2 [some (rf 65), some (it v1), some (it v2), w3, w4] [] s (qi P) := by
  refine Fr.ildn (by decide +kernel : zi 60 2 = some (.iload_n 2, 1)) rfl ?_
  refine Fr.aldn (c := 65) (by decide +kernel : zi 60 3 = some (.aload_n 0, 1)) rfl ⟨by omega, by omega⟩ ?_
  refine Fr.gI (c := 64) (ci := 4) (k := 5) (t := 0) 5 (by decide +kernel : zi 60 4 = some (.getfield 35, 3)) (by decide +kernel) (by decide +kernel) (by decide +kernel) (by decide) rfl ?_
  refine Fr.if2 (q := 61) (by decide +kernel : zi 60 7 = some (.if_icmp .ge 54, 3)) (by decide +kernel) (fun g9 => ?_) (fun g9 => ?_)
  · have h := h.1 g9
    refine Fr.iconst (by decide +kernel : zi 60 61 = some (.iconst (-1), 1)) (by decide) ?_
    exact Fr.retI (by decide +kernel : zi 60 62 = some (.ireturn, 1)) (by decide +kernel) h
  · have h := h.2 g9
    refine Fr.aldn (c := 65) (by decide +kernel : zi 60 10 = some (.aload_n 0, 1)) rfl ⟨by omega, by omega⟩ ?_
    refine Fr.ildn (by decide +kernel : zi 60 11 = some (.iload_n 2, 1)) rfl ?_
    refine Fr.iconst (by decide +kernel : zi 60 12 = some (.iconst 1, 1)) (by decide) ?_
    refine Fr.iadd (by decide +kernel : zi 60 13 = some (.iadd, 1)) ?_
    refine Fr.callI (y2 := 246) (na := 2) (as := [rf 65, it (zw (v2 + 1))]) (rest := []) (by decide +kernel : zi 60 14 = some (.invokevirtual 52, 3)) rfl (by decide +kernel) (by decide +kernel) rfl rfl (zok_V rfl (by decide) (by decide +kernel) (by decide +kernel) (zrecv_c (c := 64) (by decide) (by decide +kernel)) rfl (Nat.le_of_ble_eq_true rfl)) h (fun r2 s1 h => ?_)
    refine Fr.istn (lv2 := [some (rf 65), some (it v1), some (it v2), some (it r2), w4]) (by decide +kernel : zi 60 17 = some (.istore_n 3, 1)) (Nat.le_of_ble_eq_true rfl) rfl ?_
    refine Fr.aldn (c := 65) (by decide +kernel : zi 60 18 = some (.aload_n 0, 1)) rfl ⟨by omega, by omega⟩ ?_
    refine Fr.ildn (by decide +kernel : zi 60 19 = some (.iload_n 2, 1)) rfl ?_
    refine Fr.callI (y2 := 246) (na := 2) (as := [rf 65, it v2]) (rest := []) (by decide +kernel : zi 60 20 = some (.invokevirtual 52, 3)) rfl (by decide +kernel) (by decide +kernel) rfl rfl (zok_V rfl (by decide) (by decide +kernel) (by decide +kernel) (zrecv_c (c := 64) (by decide) (by decide +kernel)) rfl (Nat.le_of_ble_eq_true rfl)) h (fun r4 s3 h => ?_)
    refine Fr.ist (lv2 := [some (rf 65), some (it v1), some (it v2), some (it r2), some (it r4)]) (by decide +kernel : zi 60 23 = some (.istore 4, 2)) (Nat.le_of_ble_eq_true rfl) rfl ?_
    exact h
theorem f60_25 {xs : Nat → Int} {L : Nat} {d : Nat} {v1 : Int} {v2 : Int} {v3 : Int} {v4 : Int} {s : Pl} {P : Int → Pl → Prop} (h : ((v3 ≤ v4 → Fr xs L T0 106 d 60 2 [some (rf 65), some (it v1), some (it (zw (v2 + 1))), some (it v3), some (it v4)] [] s (qi P)) ∧ (¬ (v3 ≤ v4) → (0 ≤ v4 ∧ v4 < 1440) ∧ ((¬ zand (zshr (s 66 v4) 16) v1 = v1 → Fr xs L T0 106 d 60 25 [some (rf 65), some (it v1), some (it v2), some (it v3), some (it (zw (v4 + 1)))] [] s (qi P)) ∧ (¬ (¬ zand (zshr (s 66 v4) 16) v1 = v1) → P v2 s))))) : Fr xs L T0 106 d 60 25 [some (rf 65), some (it v1), some (it v2), some (it v3), some (it v4)] [] s (qi P) := by
  refine Fr.ild (by decide +kernel : zi 60 25 = some (.iload 4, 2)) rfl ?_
  refine Fr.ildn (by decide +kernel : zi 60 27 = some (.iload_n 3, 1)) rfl ?_
  refine Fr.if2 (q := 55) (by decide +kernel : zi 60 28 = some (.if_icmp .ge 27, 3)) (by decide +kernel) (fun g9 => ?_) (fun g9 => ?_)
  · have h := h.1 g9
    refine Fr.iinc (lv2 := [some (rf 65), some (it v1), some (it (zw (v2 + 1))), some (it v3), some (it v4)]) (by decide +kernel : zi 60 55 = some (.iinc 2 1, 3)) (Nat.le_of_ble_eq_true rfl) rfl rfl ?_
    refine Fr.goto (q := 2) (by decide +kernel : zi 60 58 = some (.goto (-56), 3)) (by decide +kernel) ?_
    exact h
  · have h := h.2 g9
    refine Fr.aldn (c := 65) (by decide +kernel : zi 60 31 = some (.aload_n 0, 1)) rfl ⟨by omega, by omega⟩ ?_
    refine Fr.gR (c := 64) (c2 := 67) (ci := 4) (k := 2) 2 (by decide +kernel : zi 60 32 = some (.getfield 15, 3)) (by decide +kernel) (by decide +kernel) (by decide +kernel) (by decide) rfl (fun q => q (64, 2, 67) (by decide +kernel)) ?_
    refine Fr.ild (by decide +kernel : zi 60 35 = some (.iload 4, 2)) rfl ?_
    obtain ⟨⟨g0, g1⟩, h⟩ := h
    refine Fr.iald (c := 66) (N := 1440) (by decide +kernel : zi 60 37 = some (.iaload, 1)) (by decide +kernel) (by decide) g0 g1 ?_
    refine Fr.bipush (by decide +kernel : zi 60 38 = some (.bipush 16, 2)) (by decide) ?_
    refine Fr.ishr (by decide +kernel : zi 60 40 = some (.ishr, 1)) ?_
    refine Fr.ildn (by decide +kernel : zi 60 41 = some (.iload_n 1, 1)) rfl ?_
    refine Fr.iand (by decide +kernel : zi 60 42 = some (.iand, 1)) ?_
    refine Fr.ildn (by decide +kernel : zi 60 43 = some (.iload_n 1, 1)) rfl ?_
    refine Fr.if2 (q := 49) (by decide +kernel : zi 60 44 = some (.if_icmp .ne 5, 3)) (by decide +kernel) (fun g9 => ?_) (fun g9 => ?_)
    · have h := h.1 g9
      refine Fr.iinc (lv2 := [some (rf 65), some (it v1), some (it v2), some (it v3), some (it (zw (v4 + 1)))]) (by decide +kernel : zi 60 49 = some (.iinc 4 1, 3)) (Nat.le_of_ble_eq_true rfl) rfl rfl ?_
      refine Fr.goto (q := 25) (by decide +kernel : zi 60 52 = some (.goto (-27), 3)) (by decide +kernel) ?_
      exact h
    · have h := h.2 g9
      refine Fr.ildn (by decide +kernel : zi 60 47 = some (.iload_n 2, 1)) rfl ?_
      exact Fr.retI (by decide +kernel : zi 60 48 = some (.ireturn, 1)) (by decide +kernel) h
-- 61 X4_leastForAll
theorem f61_0 {xs : Nat → Int} {L : Nat} {d : Nat}  {s : Pl} {P : Int → Pl → Prop} (h : Ev xs L T0 106 d 40 [rf 58] s (qi fun r2 s1 => Ev xs L T0 106 d 60 [rf 65, it r2] s1 (qi fun r4 s3 => P r4 s3))) : Fr xs L T0 106 d 61 0 [some (rf 65)] [] s (qi P) := by
  refine Fr.aldn (c := 65) (by decide +kernel : zi 61 0 = some (.aload_n 0, 1)) rfl ⟨by omega, by omega⟩ ?_
  refine Fr.aldn (c := 65) (by decide +kernel : zi 61 1 = some (.aload_n 0, 1)) rfl ⟨by omega, by omega⟩ ?_
  refine Fr.gR (c := 64) (c2 := 58) (ci := 4) (k := 0) 0 (by decide +kernel : zi 61 2 = some (.getfield 21, 3)) (by decide +kernel) (by decide +kernel) (by decide +kernel) (by decide) rfl (fun q => q (64, 0, 58) (by decide +kernel)) ?_
  refine Fr.callI (y2 := 40) (na := 1) (as := [rf 58]) (rest := [rf 65]) (by decide +kernel : zi 61 5 = some (.invokevirtual 110, 3)) rfl (by decide +kernel) (by decide +kernel) rfl rfl (zok_V rfl (by decide) (by decide +kernel) (by decide +kernel) (zrecv_c (c := 57) (by decide) (by decide +kernel)) rfl (Nat.le_of_ble_eq_true rfl)) h (fun r2 s1 h => ?_)
  refine Fr.callI (y2 := 60) (na := 2) (as := [rf 65, it r2]) (rest := []) (by decide +kernel : zi 61 8 = some (.invokevirtual 113, 3)) rfl (by decide +kernel) (by decide +kernel) rfl rfl (zok_V rfl (by decide) (by decide +kernel) (by decide +kernel) (zrecv_c (c := 64) (by decide) (by decide +kernel)) rfl (Nat.le_of_ble_eq_true rfl)) h (fun r4 s3 h => ?_)
  exact Fr.retI (by decide +kernel : zi 61 11 = some (.ireturn, 1)) (by decide +kernel) h
theorem e61 {xs : Nat → Int} {L : Nat} {d : Nat}  {s : Pl} {Q : Option AV → Pl → Prop} (hd : 1 ≤ d) (k : Fr xs L T0 106 (d - 1) 61 0 [some (rf 65)] [] s Q) : Ev xs L T0 106 d 61 [rf 65] s Q := Ev.of (by decide) _ rfl hd k
-- 62 X4_everAtTo
theorem f62_0 {xs : Nat → Int} {L : Nat} {d : Nat}  {s : Pl} {P : Int → Pl → Prop} (h : Fr xs L T0 106 d 62 4 [some (rf 65), some (it 0), some (it 0)] [] s (qi P)) : Fr xs L T0 106 d 62 0 [some (rf 65), none, none] [] s (qi P) := by
  refine Fr.iconst (by decide +kernel : zi 62 0 = some (.iconst 0, 1)) (by decide) ?_
  refine Fr.istn (lv2 := [some (rf 65), some (it 0), none]) (by decide +kernel : zi 62 1 = some (.istore_n 1, 1)) (Nat.le_of_ble_eq_true rfl) rfl ?_
  refine Fr.iconst (by decide +kernel : zi 62 2 = some (.iconst 0, 1)) (by decide) ?_
  refine Fr.istn (lv2 := [some (rf 65), some (it 0), some (it 0)]) (by decide +kernel : zi 62 3 = some (.istore_n 2, 1)) (Nat.le_of_ble_eq_true rfl) rfl ?_
  exact h
theorem e62 {xs : Nat → Int} {L : Nat} {d : Nat}  {s : Pl} {Q : Option AV → Pl → Prop} (hd : 1 ≤ d) (k : Fr xs L T0 106 (d - 1) 62 0 [some (rf 65), none, none] [] s Q) : Ev xs L T0 106 d 62 [rf 65] s Q := Ev.of (by decide) _ rfl hd k
theorem f62_4 {xs : Nat → Int} {L : Nat} {d : Nat} {v1 : Int} {v2 : Int} {s : Pl} {P : Int → Pl → Prop} (h : ((s 64 4 ≤ v2 → P v1 s) ∧ (¬ (s 64 4 ≤ v2) → ((1440 ≤ v2 → P v1 s) ∧ (¬ (1440 ≤ v2) → (0 ≤ v2 ∧ v2 < 1440) ∧ Fr xs L T0 106 d 62 4 [some (rf 65), some (it (zor v1 (zshr (s 66 v2) 16))), some (it (zw (v2 + 1)))] [] s (qi P)))))) : Fr xs L T0 106 d 62 4 [some (rf 65), some (it v1), some (it v2)] [] s (qi P) := by
  refine Fr.ildn (by decide +kernel : zi 62 4 = some (.iload_n 2, 1)) rfl ?_
  refine Fr.aldn (c := 65) (by decide +kernel : zi 62 5 = some (.aload_n 0, 1)) rfl ⟨by omega, by omega⟩ ?_
  refine Fr.gI (c := 64) (ci := 4) (k := 4) (t := 0) 4 (by decide +kernel : zi 62 6 = some (.getfield 31, 3)) (by decide +kernel) (by decide +kernel) (by decide +kernel) (by decide) rfl ?_
  refine Fr.if2 (q := 39) (by decide +kernel : zi 62 9 = some (.if_icmp .ge 30, 3)) (by decide +kernel) (fun g9 => ?_) (fun g9 => ?_)
  · have h := h.1 g9
    refine Fr.ildn (by decide +kernel : zi 62 39 = some (.iload_n 1, 1)) rfl ?_
    exact Fr.retI (by decide +kernel : zi 62 40 = some (.ireturn, 1)) (by decide +kernel) h
  · have h := h.2 g9
    refine Fr.ildn (by decide +kernel : zi 62 12 = some (.iload_n 2, 1)) rfl ?_
    refine Fr.aldn (c := 65) (by decide +kernel : zi 62 13 = some (.aload_n 0, 1)) rfl ⟨by omega, by omega⟩ ?_
    refine Fr.gR (c := 64) (c2 := 67) (ci := 4) (k := 2) 2 (by decide +kernel : zi 62 14 = some (.getfield 15, 3)) (by decide +kernel) (by decide +kernel) (by decide +kernel) (by decide) rfl (fun q => q (64, 2, 67) (by decide +kernel)) ?_
    refine Fr.alen (c := 66) (N := 1440) (K := 20) (by decide +kernel : zi 62 17 = some (.arraylength, 1)) (by decide +kernel) (by decide) (by decide) ?_
    refine Fr.if2 (q := 39) (by decide +kernel : zi 62 18 = some (.if_icmp .ge 21, 3)) (by decide +kernel) (fun g9 => ?_) (fun g9 => ?_)
    · have h := h.1 g9
      refine Fr.ildn (by decide +kernel : zi 62 39 = some (.iload_n 1, 1)) rfl ?_
      exact Fr.retI (by decide +kernel : zi 62 40 = some (.ireturn, 1)) (by decide +kernel) h
    · have h := h.2 g9
      refine Fr.ildn (by decide +kernel : zi 62 21 = some (.iload_n 1, 1)) rfl ?_
      refine Fr.aldn (c := 65) (by decide +kernel : zi 62 22 = some (.aload_n 0, 1)) rfl ⟨by omega, by omega⟩ ?_
      refine Fr.gR (c := 64) (c2 := 67) (ci := 4) (k := 2) 2 (by decide +kernel : zi 62 23 = some (.getfield 15, 3)) (by decide +kernel) (by decide +kernel) (by decide +kernel) (by decide) rfl (fun q => q (64, 2, 67) (by decide +kernel)) ?_
      refine Fr.ildn (by decide +kernel : zi 62 26 = some (.iload_n 2, 1)) rfl ?_
      obtain ⟨⟨g0, g1⟩, h⟩ := h
      refine Fr.iald (c := 66) (N := 1440) (by decide +kernel : zi 62 27 = some (.iaload, 1)) (by decide +kernel) (by decide) g0 g1 ?_
      refine Fr.bipush (by decide +kernel : zi 62 28 = some (.bipush 16, 2)) (by decide) ?_
      refine Fr.ishr (by decide +kernel : zi 62 30 = some (.ishr, 1)) ?_
      refine Fr.ior (by decide +kernel : zi 62 31 = some (.ior, 1)) ?_
      refine Fr.istn (lv2 := [some (rf 65), some (it (zor v1 (zshr (s 66 v2) 16))), some (it v2)]) (by decide +kernel : zi 62 32 = some (.istore_n 1, 1)) (Nat.le_of_ble_eq_true rfl) rfl ?_
      refine Fr.iinc (lv2 := [some (rf 65), some (it (zor v1 (zshr (s 66 v2) 16))), some (it (zw (v2 + 1)))]) (by decide +kernel : zi 62 33 = some (.iinc 2 1, 3)) (Nat.le_of_ble_eq_true rfl) rfl rfl ?_
      refine Fr.goto (q := 4) (by decide +kernel : zi 62 36 = some (.goto (-32), 3)) (by decide +kernel) ?_
      exact h
-- 63 X4_findBest
theorem f63_0 {xs : Nat → Int} {L : Nat} {d : Nat} {v1 : Int} {s : Pl} {P : Pl → Prop} (h : Fr xs L T0 106 d 63 12 [some (rf 65), some (it v1), some (it 0), none] [] (zup (zup s 64 6 (-1)) 64 7 0) (qv P)) : Fr xs L T0 106 d 63 0 [some (rf 65), some (it v1), none, none] [] s (qv P) := by
  refine Fr.aldn (c := 65) (by decide +kernel : zi 63 0 = some (.aload_n 0, 1)) rfl ⟨by omega, by omega⟩ ?_
  refine Fr.iconst (by decide +kernel : zi 63 1 = some (.iconst (-1), 1)) (by decide) ?_
  refine Fr.pI (c := 64) (ci := 4) (k := 6) 6 (by decide +kernel : zi 63 2 = some (.putfield 116, 3)) (by decide +kernel) (by decide +kernel) (by decide +kernel) (by decide) rfl ?_
  refine Fr.aldn (c := 65) (by decide +kernel : zi 63 5 = some (.aload_n 0, 1)) rfl ⟨by omega, by omega⟩ ?_
  refine Fr.iconst (by decide +kernel : zi 63 6 = some (.iconst 0, 1)) (by decide) ?_
  refine Fr.pI (c := 64) (ci := 4) (k := 7) 7 (by decide +kernel : zi 63 7 = some (.putfield 119, 3)) (by decide +kernel) (by decide +kernel) (by decide +kernel) (by decide) rfl ?_
  refine Fr.iconst (by decide +kernel : zi 63 10 = some (.iconst 0, 1)) (by decide) ?_
  refine Fr.istn (lv2 := [some (rf 65), some (it v1), some (it 0), none]) (by decide +kernel : zi 63 11 = some (.istore_n 2, 1)) (Nat.le_of_ble_eq_true rfl) rfl ?_
  exact h
theorem e63 {xs : Nat → Int} {L : Nat} {d : Nat} {v1 : Int} {s : Pl} {Q : Option AV → Pl → Prop} (hd : 1 ≤ d) (k : Fr xs L T0 106 (d - 1) 63 0 [some (rf 65), some (it v1), none, none] [] s Q) : Ev xs L T0 106 d 63 [rf 65, it v1] s Q := Ev.of (by decide) _ rfl hd k
theorem f63_12 {xs : Nat → Int} {L : Nat} {d : Nat} {v1 : Int} {v2 : Int} {w3 : Option AV} {s : Pl} {P : Pl → Prop} (h : ((s 64 5 ≤ v2 → P s) ∧ (¬ (s 64 5 ≤ v2) → ((v1 < v2 → P s) ∧ (¬ (v1 < v2) → Ev xs L T0 106 d 64 [rf 65, it v2] s (qi fun r2 s1 => ((r2 ≤ s1 64 6 → Fr xs L T0 106 d 63 49 [some (rf 65), some (it v1), some (it v2), some (it r2)] [] s1 (qv P)) ∧ (¬ (r2 ≤ s1 64 6) → Fr xs L T0 106 d 63 49 [some (rf 65), some (it v1), some (it v2), some (it r2)] [] (zup (zup s1 64 6 r2) 64 7 v2) (qv P))))))))) : Fr xs L T0 106 d 63 12 [some (rf 65), some (it v1), some (it v2), w3] [] s (qv P) := by
  refine Fr.ildn (by decide +kernel : zi 63 12 = some (.iload_n 2, 1)) rfl ?_
  refine Fr.aldn (c := 65) (by decide +kernel : zi 63 13 = some (.aload_n 0, 1)) rfl ⟨by omega, by omega⟩ ?_
  refine Fr.gI (c := 64) (ci := 4) (k := 5) (t := 0) 5 (by decide +kernel : zi 63 14 = some (.getfield 35, 3)) (by decide +kernel) (by decide +kernel) (by decide +kernel) (by decide) rfl ?_
  refine Fr.if2 (q := 55) (by decide +kernel : zi 63 17 = some (.if_icmp .ge 38, 3)) (by decide +kernel) (fun g9 => ?_) (fun g9 => ?_)
  · have h := h.1 g9
    exact Fr.retV (by decide +kernel : zi 63 55 = some (.return_, 1)) (by decide +kernel) h
  · have h := h.2 g9
    refine Fr.ildn (by decide +kernel : zi 63 20 = some (.iload_n 2, 1)) rfl ?_
    refine Fr.ildn (by decide +kernel : zi 63 21 = some (.iload_n 1, 1)) rfl ?_
    refine Fr.if2 (q := 55) (by decide +kernel : zi 63 22 = some (.if_icmp .gt 33, 3)) (by decide +kernel) (fun g9 => ?_) (fun g9 => ?_)
    · have h := h.1 g9
      exact Fr.retV (by decide +kernel : zi 63 55 = some (.return_, 1)) (by decide +kernel) h
    · have h := h.2 g9
      refine Fr.aldn (c := 65) (by decide +kernel : zi 63 25 = some (.aload_n 0, 1)) rfl ⟨by omega, by omega⟩ ?_
      refine Fr.ildn (by decide +kernel : zi 63 26 = some (.iload_n 2, 1)) rfl ?_
      refine Fr.callI (y2 := 64) (na := 2) (as := [rf 65, it v2]) (rest := []) (by decide +kernel : zi 63 27 = some (.invokevirtual 122, 3)) rfl (by decide +kernel) (by decide +kernel) rfl rfl (zok_V rfl (by decide) (by decide +kernel) (by decide +kernel) (zrecv_c (c := 64) (by decide) (by decide +kernel)) rfl (Nat.le_of_ble_eq_true rfl)) h (fun r2 s1 h => ?_)
      refine Fr.istn (lv2 := [some (rf 65), some (it v1), some (it v2), some (it r2)]) (by decide +kernel : zi 63 30 = some (.istore_n 3, 1)) (Nat.le_of_ble_eq_true rfl) rfl ?_
      refine Fr.ildn (by decide +kernel : zi 63 31 = some (.iload_n 3, 1)) rfl ?_
      refine Fr.aldn (c := 65) (by decide +kernel : zi 63 32 = some (.aload_n 0, 1)) rfl ⟨by omega, by omega⟩ ?_
      refine Fr.gI (c := 64) (ci := 4) (k := 6) (t := 0) 6 (by decide +kernel : zi 63 33 = some (.getfield 116, 3)) (by decide +kernel) (by decide +kernel) (by decide +kernel) (by decide) rfl ?_
      refine Fr.if2 (q := 49) (by decide +kernel : zi 63 36 = some (.if_icmp .le 13, 3)) (by decide +kernel) (fun g9 => ?_) (fun g9 => ?_)
      · have h := h.1 g9
        exact h
      · have h := h.2 g9
        refine Fr.aldn (c := 65) (by decide +kernel : zi 63 39 = some (.aload_n 0, 1)) rfl ⟨by omega, by omega⟩ ?_
        refine Fr.ildn (by decide +kernel : zi 63 40 = some (.iload_n 3, 1)) rfl ?_
        refine Fr.pI (c := 64) (ci := 4) (k := 6) 6 (by decide +kernel : zi 63 41 = some (.putfield 116, 3)) (by decide +kernel) (by decide +kernel) (by decide +kernel) (by decide) rfl ?_
        refine Fr.aldn (c := 65) (by decide +kernel : zi 63 44 = some (.aload_n 0, 1)) rfl ⟨by omega, by omega⟩ ?_
        refine Fr.ildn (by decide +kernel : zi 63 45 = some (.iload_n 2, 1)) rfl ?_
        refine Fr.pI (c := 64) (ci := 4) (k := 7) 7 (by decide +kernel : zi 63 46 = some (.putfield 119, 3)) (by decide +kernel) (by decide +kernel) (by decide +kernel) (by decide) rfl ?_
        exact h
theorem f63_49 {xs : Nat → Int} {L : Nat} {d : Nat} {v1 : Int} {v2 : Int} {v3 : Int} {s : Pl} {P : Pl → Prop} (h : Fr xs L T0 106 d 63 12 [some (rf 65), some (it v1), some (it (zw (v2 + 1))), some (it v3)] [] s (qv P)) : Fr xs L T0 106 d 63 49 [some (rf 65), some (it v1), some (it v2), some (it v3)] [] s (qv P) := by
  refine Fr.iinc (lv2 := [some (rf 65), some (it v1), some (it (zw (v2 + 1))), some (it v3)]) (by decide +kernel : zi 63 49 = some (.iinc 2 1, 3)) (Nat.le_of_ble_eq_true rfl) rfl rfl ?_
  refine Fr.goto (q := 12) (by decide +kernel : zi 63 52 = some (.goto (-40), 3)) (by decide +kernel) ?_
  exact h
-- 64 X4_mostGainAt
theorem f64_0 {xs : Nat → Int} {L : Nat} {d : Nat} {v1 : Int} {s : Pl} {P : Int → Pl → Prop} (h : Ev xs L T0 106 d 246 [rf 65, it (zw (v1 + 1))] s (qi fun r2 s1 => Ev xs L T0 106 d 246 [rf 65, it v1] s1 (qi fun r4 s3 => Fr xs L T0 106 d 64 20 [some (rf 65), some (it v1), some (it (-1)), some (it (-1)), some (it r2), some (it r4), none] [] s3 (qi P)))) : Fr xs L T0 106 d 64 0 [some (rf 65), some (it v1), none, none, none, none, none] [] s (qi P) := by
  refine Fr.iconst (by decide +kernel : zi 64 0 = some (.iconst (-1), 1)) (by decide) ?_
  refine Fr.istn (lv2 := [some (rf 65), some (it v1), some (it (-1)), none, none, none, none]) (by decide +kernel : zi 64 1 = some (.istore_n 2, 1)) (Nat.le_of_ble_eq_true rfl) rfl ?_
  refine Fr.iconst (by decide +kernel : zi 64 2 = some (.iconst (-1), 1)) (by decide) ?_
  refine Fr.istn (lv2 := [some (rf 65), some (it v1), some (it (-1)), some (it (-1)), none, none, none]) (by decide +kernel : zi 64 3 = some (.istore_n 3, 1)) (Nat.le_of_ble_eq_true rfl) rfl ?_
  refine Fr.aldn (c := 65) (by decide +kernel : zi 64 4 = some (.aload_n 0, 1)) rfl ⟨by omega, by omega⟩ ?_
  refine Fr.ildn (by decide +kernel : zi 64 5 = some (.iload_n 1, 1)) rfl ?_
  refine Fr.iconst (by decide +kernel : zi 64 6 = some (.iconst 1, 1)) (by decide) ?_
  refine Fr.iadd (by decide +kernel : zi 64 7 = some (.iadd, 1)) ?_
  refine Fr.callI (y2 := 246) (na := 2) (as := [rf 65, it (zw (v1 + 1))]) (rest := []) (by decide +kernel : zi 64 8 = some (.invokevirtual 52, 3)) rfl (by decide +kernel) (by decide +kernel) rfl rfl (zok_V rfl (by decide) (by decide +kernel) (by decide +kernel) (zrecv_c (c := 64) (by decide) (by decide +kernel)) rfl (Nat.le_of_ble_eq_true rfl)) h (fun r2 s1 h => ?_)
  refine Fr.ist (lv2 := [some (rf 65), some (it v1), some (it (-1)), some (it (-1)), some (it r2), none, none]) (by decide +kernel : zi 64 11 = some (.istore 4, 2)) (Nat.le_of_ble_eq_true rfl) rfl ?_
  refine Fr.aldn (c := 65) (by decide +kernel : zi 64 13 = some (.aload_n 0, 1)) rfl ⟨by omega, by omega⟩ ?_
  refine Fr.ildn (by decide +kernel : zi 64 14 = some (.iload_n 1, 1)) rfl ?_
  refine Fr.callI (y2 := 246) (na := 2) (as := [rf 65, it v1]) (rest := []) (by decide +kernel : zi 64 15 = some (.invokevirtual 52, 3)) rfl (by decide +kernel) (by decide +kernel) rfl rfl (zok_V rfl (by decide) (by decide +kernel) (by decide +kernel) (zrecv_c (c := 64) (by decide) (by decide +kernel)) rfl (Nat.le_of_ble_eq_true rfl)) h (fun r4 s3 h => ?_)
  refine Fr.ist (lv2 := [some (rf 65), some (it v1), some (it (-1)), some (it (-1)), some (it r2), some (it r4), none]) (by decide +kernel : zi 64 18 = some (.istore 5, 2)) (Nat.le_of_ble_eq_true rfl) rfl ?_
  exact h
theorem e64 {xs : Nat → Int} {L : Nat} {d : Nat} {v1 : Int} {s : Pl} {Q : Option AV → Pl → Prop} (hd : 1 ≤ d) (k : Fr xs L T0 106 (d - 1) 64 0 [some (rf 65), some (it v1), none, none, none, none, none] [] s Q) : Ev xs L T0 106 d 64 [rf 65, it v1] s Q := Ev.of (by decide) _ rfl hd k
theorem f64_20 {xs : Nat → Int} {L : Nat} {d : Nat} {v1 : Int} {v2 : Int} {v3 : Int} {v4 : Int} {v5 : Int} {w6 : Option AV} {s : Pl} {P : Int → Pl → Prop} (h : ((v4 ≤ v5 → P v2 s) ∧ (¬ (v4 ≤ v5) → (0 ≤ v5 ∧ v5 < 1440) ∧ ((zshr (s 66 v5) 16 = v3 → Fr xs L T0 106 d 64 60 [some (rf 65), some (it v1), some (it v2), some (it v3), some (it v4), some (it v5), some (it (zshr (s 66 v5) 16))] [] s (qi P)) ∧ (¬ (zshr (s 66 v5) 16 = v3) → Ev xs L T0 106 d 65 [rf 65, it (zshr (s 66 v5) 16), it v1] s (qi fun r2 s1 => Ev xs L T0 106 d 230 [it v2, it r2] s1 (qi fun r4 s3 => Fr xs L T0 106 d 64 60 [some (rf 65), some (it v1), some (it r4), some (it (zshr (s 66 v5) 16)), some (it v4), some (it v5), some (it (zshr (s 66 v5) 16))] [] s3 (qi P)))))))) : Fr xs L T0 106 d 64 20 [some (rf 65), some (it v1), some (it v2), some (it v3), some (it v4), some (it v5), w6] [] s (qi P) := by
  refine Fr.ild (by decide +kernel : zi 64 20 = some (.iload 5, 2)) rfl ?_
  refine Fr.ild (by decide +kernel : zi 64 22 = some (.iload 4, 2)) rfl ?_
  refine Fr.if2 (q := 66) (by decide +kernel : zi 64 24 = some (.if_icmp .ge 42, 3)) (by decide +kernel) (fun g9 => ?_) (fun g9 => ?_)
  · have h := h.1 g9
    refine Fr.ildn (by decide +kernel : zi 64 66 = some (.iload_n 2, 1)) rfl ?_
    exact Fr.retI (by decide +kernel : zi 64 67 = some (.ireturn, 1)) (by decide +kernel) h
  · have h := h.2 g9
    refine Fr.aldn (c := 65) (by decide +kernel : zi 64 27 = some (.aload_n 0, 1)) rfl ⟨by omega, by omega⟩ ?_
    refine Fr.gR (c := 64) (c2 := 67) (ci := 4) (k := 2) 2 (by decide +kernel : zi 64 28 = some (.getfield 15, 3)) (by decide +kernel) (by decide +kernel) (by decide +kernel) (by decide) rfl (fun q => q (64, 2, 67) (by decide +kernel)) ?_
    refine Fr.ild (by decide +kernel : zi 64 31 = some (.iload 5, 2)) rfl ?_
    obtain ⟨⟨g0, g1⟩, h⟩ := h
    refine Fr.iald (c := 66) (N := 1440) (by decide +kernel : zi 64 33 = some (.iaload, 1)) (by decide +kernel) (by decide) g0 g1 ?_
    refine Fr.bipush (by decide +kernel : zi 64 34 = some (.bipush 16, 2)) (by decide) ?_
    refine Fr.ishr (by decide +kernel : zi 64 36 = some (.ishr, 1)) ?_
    refine Fr.ist (lv2 := [some (rf 65), some (it v1), some (it v2), some (it v3), some (it v4), some (it v5), some (it (zshr (s 66 v5) 16))]) (by decide +kernel : zi 64 37 = some (.istore 6, 2)) (Nat.le_of_ble_eq_true rfl) rfl ?_
    refine Fr.ild (by decide +kernel : zi 64 39 = some (.iload 6, 2)) rfl ?_
    refine Fr.ildn (by decide +kernel : zi 64 41 = some (.iload_n 3, 1)) rfl ?_
    refine Fr.if2 (q := 60) (by decide +kernel : zi 64 42 = some (.if_icmp .eq 18, 3)) (by decide +kernel) (fun g9 => ?_) (fun g9 => ?_)
    · have h := h.1 g9
      exact h
    · have h := h.2 g9
      refine Fr.ildn (by decide +kernel : zi 64 45 = some (.iload_n 2, 1)) rfl ?_
      refine Fr.aldn (c := 65) (by decide +kernel : zi 64 46 = some (.aload_n 0, 1)) rfl ⟨by omega, by omega⟩ ?_
      refine Fr.ild (by decide +kernel : zi 64 47 = some (.iload 6, 2)) rfl ?_
      refine Fr.ildn (by decide +kernel : zi 64 49 = some (.iload_n 1, 1)) rfl ?_
      refine Fr.callI (y2 := 65) (na := 3) (as := [rf 65, it (zshr (s 66 v5) 16), it v1]) (rest := [it v2]) (by decide +kernel : zi 64 50 = some (.invokevirtual 125, 3)) rfl (by decide +kernel) (by decide +kernel) rfl rfl (zok_V rfl (by decide) (by decide +kernel) (by decide +kernel) (zrecv_c (c := 64) (by decide) (by decide +kernel)) rfl (Nat.le_of_ble_eq_true rfl)) h (fun r2 s1 h => ?_)
      refine Fr.callI (y2 := 230) (na := 2) (as := [it v2, it r2]) (rest := []) (by decide +kernel : zi 64 53 = some (.invokestatic 74, 3)) rfl (by decide +kernel) (by decide +kernel) rfl rfl (zok_S rfl (by decide) (by decide +kernel) rfl (Nat.le_of_ble_eq_true rfl)) h (fun r4 s3 h => ?_)
      refine Fr.istn (lv2 := [some (rf 65), some (it v1), some (it r4), some (it v3), some (it v4), some (it v5), some (it (zshr (s 66 v5) 16))]) (by decide +kernel : zi 64 56 = some (.istore_n 2, 1)) (Nat.le_of_ble_eq_true rfl) rfl ?_
      refine Fr.ild (by decide +kernel : zi 64 57 = some (.iload 6, 2)) rfl ?_
      refine Fr.istn (lv2 := [some (rf 65), some (it v1), some (it r4), some (it (zshr (s 66 v5) 16)), some (it v4), some (it v5), some (it (zshr (s 66 v5) 16))]) (by decide +kernel : zi 64 59 = some (.istore_n 3, 1)) (Nat.le_of_ble_eq_true rfl) rfl ?_
      exact h
theorem f64_60 {xs : Nat → Int} {L : Nat} {d : Nat} {v1 : Int} {v2 : Int} {v3 : Int} {v4 : Int} {v5 : Int} {v6 : Int} {s : Pl} {P : Int → Pl → Prop} (h : Fr xs L T0 106 d 64 20 [some (rf 65), some (it v1), some (it v2), some (it v3), some (it v4), some (it (zw (v5 + 1))), some (it v6)] [] s (qi P)) : Fr xs L T0 106 d 64 60 [some (rf 65), some (it v1), some (it v2), some (it v3), some (it v4), some (it v5), some (it v6)] [] s (qi P) := by
  refine Fr.iinc (lv2 := [some (rf 65), some (it v1), some (it v2), some (it v3), some (it v4), some (it (zw (v5 + 1))), some (it v6)]) (by decide +kernel : zi 64 60 = some (.iinc 5 1, 3)) (Nat.le_of_ble_eq_true rfl) rfl rfl ?_
  refine Fr.goto (q := 20) (by decide +kernel : zi 64 63 = some (.goto (-43), 3)) (by decide +kernel) ?_
  exact h
-- 65 X4_gainOfAll
theorem f65_0 {xs : Nat → Int} {L : Nat} {d : Nat} {v1 : Int} {v2 : Int} {s : Pl} {P : Int → Pl → Prop} (h : Fr xs L T0 106 d 65 5 [some (rf 65), some (it v1), some (it v2), some (it 0), some (it 0)] [] s (qi P)) : Fr xs L T0 106 d 65 0 [some (rf 65), some (it v1), some (it v2), none, none] [] s (qi P) := by
  refine Fr.iconst (by decide +kernel : zi 65 0 = some (.iconst 0, 1)) (by decide) ?_
  refine Fr.istn (lv2 := [some (rf 65), some (it v1), some (it v2), some (it 0), none]) (by decide +kernel : zi 65 1 = some (.istore_n 3, 1)) (Nat.le_of_ble_eq_true rfl) rfl ?_
  refine Fr.iconst (by decide +kernel : zi 65 2 = some (.iconst 0, 1)) (by decide) ?_
  refine Fr.ist (lv2 := [some (rf 65), some (it v1), some (it v2), some (it 0), some (it 0)]) (by decide +kernel : zi 65 3 = some (.istore 4, 2)) (Nat.le_of_ble_eq_true rfl) rfl ?_
  exact h
theorem e65 {xs : Nat → Int} {L : Nat} {d : Nat} {v1 : Int} {v2 : Int} {s : Pl} {Q : Option AV → Pl → Prop} (hd : 1 ≤ d) (k : Fr xs L T0 106 (d - 1) 65 0 [some (rf 65), some (it v1), some (it v2), none, none] [] s Q) : Ev xs L T0 106 d 65 [rf 65, it v1, it v2] s Q := Ev.of (by decide) _ rfl hd k
theorem f65_5 {xs : Nat → Int} {L : Nat} {d : Nat} {v1 : Int} {v2 : Int} {v3 : Int} {v4 : Int} {s : Pl} {P : Int → Pl → Prop} (h : ((6 ≤ v4 → P v3 s) ∧ (¬ (6 ≤ v4) → ((zand (zshr v1 v4) 1 = 0 → Fr xs L T0 106 d 65 34 [some (rf 65), some (it v1), some (it v2), some (it v3), some (it v4)] [] s (qi P)) ∧ (¬ (zand (zshr v1 v4) 1 = 0) → Ev xs L T0 106 d 38 [rf 58, it v4, it v2] s (qi fun r2 s1 => Fr xs L T0 106 d 65 34 [some (rf 65), some (it v1), some (it v2), some (it (zw (v3 + r2))), some (it v4)] [] s1 (qi P))))))) : Fr xs L T0 106 d 65 5 [some (rf 65), some (it v1), some (it v2), some (it v3), some (it v4)] [] s (qi P) := by
  refine Fr.ild (by decide +kernel : zi 65 5 = some (.iload 4, 2)) rfl ?_
  refine Fr.bipush (by decide +kernel : zi 65 7 = some (.bipush 6, 2)) (by decide) ?_
  refine Fr.if2 (q := 40) (by decide +kernel : zi 65 9 = some (.if_icmp .ge 31, 3)) (by decide +kernel) (fun g9 => ?_) (fun g9 => ?_)
  · have h := h.1 g9
    refine Fr.ildn (by decide +kernel : zi 65 40 = some (.iload_n 3, 1)) rfl ?_
    exact Fr.retI (by decide +kernel : zi 65 41 = some (.ireturn, 1)) (by decide +kernel) h
  · have h := h.2 g9
    refine Fr.ildn (by decide +kernel : zi 65 12 = some (.iload_n 1, 1)) rfl ?_
    refine Fr.ild (by decide +kernel : zi 65 13 = some (.iload 4, 2)) rfl ?_
    refine Fr.ishr (by decide +kernel : zi 65 15 = some (.ishr, 1)) ?_
    refine Fr.iconst (by decide +kernel : zi 65 16 = some (.iconst 1, 1)) (by decide) ?_
    refine Fr.iand (by decide +kernel : zi 65 17 = some (.iand, 1)) ?_
    refine Fr.if0 (q := 34) (by decide +kernel : zi 65 18 = some (.ifCond .eq 16, 3)) (by decide +kernel) (fun g9 => ?_) (fun g9 => ?_)
    · have h := h.1 g9
      exact h
    · have h := h.2 g9
      refine Fr.ildn (by decide +kernel : zi 65 21 = some (.iload_n 3, 1)) rfl ?_
      refine Fr.aldn (c := 65) (by decide +kernel : zi 65 22 = some (.aload_n 0, 1)) rfl ⟨by omega, by omega⟩ ?_
      refine Fr.gR (c := 64) (c2 := 58) (ci := 4) (k := 0) 0 (by decide +kernel : zi 65 23 = some (.getfield 21, 3)) (by decide +kernel) (by decide +kernel) (by decide +kernel) (by decide) rfl (fun q => q (64, 0, 58) (by decide +kernel)) ?_
      refine Fr.ild (by decide +kernel : zi 65 26 = some (.iload 4, 2)) rfl ?_
      refine Fr.ildn (by decide +kernel : zi 65 28 = some (.iload_n 2, 1)) rfl ?_
      refine Fr.callI (y2 := 38) (na := 3) (as := [rf 58, it v4, it v2]) (rest := [it v3]) (by decide +kernel : zi 65 29 = some (.invokevirtual 128, 3)) rfl (by decide +kernel) (by decide +kernel) rfl rfl (zok_V rfl (by decide) (by decide +kernel) (by decide +kernel) (zrecv_c (c := 57) (by decide) (by decide +kernel)) rfl (Nat.le_of_ble_eq_true rfl)) h (fun r2 s1 h => ?_)
      refine Fr.iadd (by decide +kernel : zi 65 32 = some (.iadd, 1)) ?_
      refine Fr.istn (lv2 := [some (rf 65), some (it v1), some (it v2), some (it (zw (v3 + r2))), some (it v4)]) (by decide +kernel : zi 65 33 = some (.istore_n 3, 1)) (Nat.le_of_ble_eq_true rfl) rfl ?_
      exact h
theorem f65_34 {xs : Nat → Int} {L : Nat} {d : Nat} {v1 : Int} {v2 : Int} {v3 : Int} {v4 : Int} {s : Pl} {P : Int → Pl → Prop} (h : Fr xs L T0 106 d 65 5 [some (rf 65), some (it v1), some (it v2), some (it v3), some (it (zw (v4 + 1)))] [] s (qi P)) : Fr xs L T0 106 d 65 34 [some (rf 65), some (it v1), some (it v2), some (it v3), some (it v4)] [] s (qi P) := by
  refine Fr.iinc (lv2 := [some (rf 65), some (it v1), some (it v2), some (it v3), some (it (zw (v4 + 1)))]) (by decide +kernel : zi 65 34 = some (.iinc 4 1, 3)) (Nat.le_of_ble_eq_true rfl) rfl rfl ?_
  refine Fr.goto (q := 5) (by decide +kernel : zi 65 37 = some (.goto (-32), 3)) (by decide +kernel) ?_
  exact h
-- 246 X4_firstAt
theorem f246_0 {xs : Nat → Int} {L : Nat} {d : Nat} {v1 : Int} {s : Pl} {P : Int → Pl → Prop} (h : ((v1 < 0 → P 0 s) ∧ (¬ (v1 < 0) → ((402 ≤ v1 → P 0 s) ∧ (¬ (402 ≤ v1) → (0 ≤ v1 ∧ v1 < 402) ∧ Ev xs L T0 106 d 231 [it 1440, it (s 67 v1)] s (qi fun r2 s1 => Ev xs L T0 106 d 230 [it 0, it r2] s1 (qi fun r4 s3 => P r4 s3))))))) : Fr xs L T0 106 d 246 0 [some (rf 65), some (it v1)] [] s (qi P) := by
  refine Fr.ildn (by decide +kernel : zi 246 0 = some (.iload_n 1, 1)) rfl ?_
  refine Fr.if0 (q := 34) (by decide +kernel : zi 246 1 = some (.ifCond .lt 33, 3)) (by decide +kernel) (fun g9 => ?_) (fun g9 => ?_)
  · have h := h.1 g9
    refine Fr.iconst (by decide +kernel : zi 246 34 = some (.iconst 0, 1)) (by decide) ?_
    exact Fr.retI (by decide +kernel : zi 246 35 = some (.ireturn, 1)) (by decide +kernel) h
  · have h := h.2 g9
    refine Fr.ildn (by decide +kernel : zi 246 4 = some (.iload_n 1, 1)) rfl ?_
    refine Fr.aldn (c := 65) (by decide +kernel : zi 246 5 = some (.aload_n 0, 1)) rfl ⟨by omega, by omega⟩ ?_
    refine Fr.gR (c := 64) (c2 := 68) (ci := 4) (k := 3) 3 (by decide +kernel : zi 246 6 = some (.getfield 18, 3)) (by decide +kernel) (by decide +kernel) (by decide +kernel) (by decide) rfl (fun q => q (64, 3, 68) (by decide +kernel)) ?_
    refine Fr.alen (c := 67) (N := 402) (K := 20) (by decide +kernel : zi 246 9 = some (.arraylength, 1)) (by decide +kernel) (by decide) (by decide) ?_
    refine Fr.if2 (q := 34) (by decide +kernel : zi 246 10 = some (.if_icmp .ge 24, 3)) (by decide +kernel) (fun g9 => ?_) (fun g9 => ?_)
    · have h := h.1 g9
      refine Fr.iconst (by decide +kernel : zi 246 34 = some (.iconst 0, 1)) (by decide) ?_
      exact Fr.retI (by decide +kernel : zi 246 35 = some (.ireturn, 1)) (by decide +kernel) h
    · have h := h.2 g9
      refine Fr.iconst (by decide +kernel : zi 246 13 = some (.iconst 0, 1)) (by decide) ?_
      refine Fr.aldn (c := 65) (by decide +kernel : zi 246 14 = some (.aload_n 0, 1)) rfl ⟨by omega, by omega⟩ ?_
      refine Fr.gR (c := 64) (c2 := 67) (ci := 4) (k := 2) 2 (by decide +kernel : zi 246 15 = some (.getfield 15, 3)) (by decide +kernel) (by decide +kernel) (by decide +kernel) (by decide) rfl (fun q => q (64, 2, 67) (by decide +kernel)) ?_
      refine Fr.alen (c := 66) (N := 1440) (K := 20) (by decide +kernel : zi 246 18 = some (.arraylength, 1)) (by decide +kernel) (by decide) (by decide) ?_
      refine Fr.aldn (c := 65) (by decide +kernel : zi 246 19 = some (.aload_n 0, 1)) rfl ⟨by omega, by omega⟩ ?_
      refine Fr.gR (c := 64) (c2 := 68) (ci := 4) (k := 3) 3 (by decide +kernel : zi 246 20 = some (.getfield 18, 3)) (by decide +kernel) (by decide +kernel) (by decide +kernel) (by decide) rfl (fun q => q (64, 3, 68) (by decide +kernel)) ?_
      refine Fr.ildn (by decide +kernel : zi 246 23 = some (.iload_n 1, 1)) rfl ?_
      obtain ⟨⟨g0, g1⟩, h⟩ := h
      refine Fr.iald (c := 67) (N := 402) (by decide +kernel : zi 246 24 = some (.iaload, 1)) (by decide +kernel) (by decide) g0 g1 ?_
      refine Fr.callI (y2 := 231) (na := 2) (as := [it 1440, it (s 67 v1)]) (rest := [it 0]) (by decide +kernel : zi 246 25 = some (.invokestatic 68, 3)) rfl (by decide +kernel) (by decide +kernel) rfl rfl (zok_S rfl (by decide) (by decide +kernel) rfl (Nat.le_of_ble_eq_true rfl)) h (fun r2 s1 h => ?_)
      refine Fr.callI (y2 := 230) (na := 2) (as := [it 0, it r2]) (rest := []) (by decide +kernel : zi 246 28 = some (.invokestatic 74, 3)) rfl (by decide +kernel) (by decide +kernel) rfl rfl (zok_S rfl (by decide) (by decide +kernel) rfl (Nat.le_of_ble_eq_true rfl)) h (fun r4 s3 h => ?_)
      refine Fr.goto (q := 35) (by decide +kernel : zi 246 31 = some (.goto 4, 3)) (by decide +kernel) ?_
      exact Fr.retI (by decide +kernel : zi 246 35 = some (.ireturn, 1)) (by decide +kernel) h
theorem e246 {xs : Nat → Int} {L : Nat} {d : Nat} {v1 : Int} {s : Pl} {Q : Option AV → Pl → Prop} (hd : 1 ≤ d) (k : Fr xs L T0 106 (d - 1) 246 0 [some (rf 65), some (it v1)] [] s Q) : Ev xs L T0 106 d 246 [rf 65, it v1] s Q := Ev.of (by decide) _ rfl hd k
