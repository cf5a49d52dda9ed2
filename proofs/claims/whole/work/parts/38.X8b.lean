-- 160 X8_force
theorem f160_0 {xs : Nat → Int} {L : Nat} {d : Nat} {v1 : Int} {s : Pl} {P : Int → Pl → Prop} (h : Ev xs L T0 106 d 132 [it v1, it 0, it (zw ((s 72 13) - 1))] s (qi fun r2 s1 => ((¬ r2 = 0 → P (s1 72 14) (zup s1 72 14 v1)) ∧ (¬ (¬ r2 = 0) → P (-2) s1)))) : Fr xs L T0 106 d 160 0 [some (rf 73), some (it v1), none] [] s (qi P) := by
  refine Fr.ildn (by decide +kernel : zi 160 0 = some (.iload_n 1, 1)) rfl ?_
  refine Fr.iconst (by decide +kernel : zi 160 1 = some (.iconst 0, 1)) (by decide) ?_
  refine Fr.aldn (c := 73) (by decide +kernel : zi 160 2 = some (.aload_n 0, 1)) rfl ⟨by omega, by omega⟩ ?_
  refine Fr.gI (c := 72) (ci := 8) (k := 13) (t := 0) 13 (by decide +kernel : zi 160 3 = some (.getfield 38, 3)) (by decide +kernel) (by decide +kernel) (by decide +kernel) (by decide) rfl ?_
  refine Fr.iconst (by decide +kernel : zi 160 6 = some (.iconst 1, 1)) (by decide) ?_
  refine Fr.isub (by decide +kernel : zi 160 7 = some (.isub, 1)) ?_
  refine Fr.callI (y2 := 132) (na := 3) (as := [it v1, it 0, it (zw ((s 72 13) - 1))]) (rest := []) (by decide +kernel : zi 160 8 = some (.invokestatic 118, 3)) rfl (by decide +kernel) (by decide +kernel) rfl rfl (zok_S rfl (by decide) (by decide +kernel) rfl (Nat.le_of_ble_eq_true rfl)) h (fun r2 s1 h => ?_)
  refine Fr.if0 (q := 17) (by decide +kernel : zi 160 11 = some (.ifCond .ne 6, 3)) (by decide +kernel) (fun g9 => ?_) (fun g9 => ?_)
  · have h := h.1 g9
    refine Fr.aldn (c := 73) (by decide +kernel : zi 160 17 = some (.aload_n 0, 1)) rfl ⟨by omega, by omega⟩ ?_
    refine Fr.gI (c := 72) (ci := 8) (k := 14) (t := 0) 14 (by decide +kernel : zi 160 18 = some (.getfield 139, 3)) (by decide +kernel) (by decide +kernel) (by decide +kernel) (by decide) rfl ?_
    refine Fr.istn (lv2 := [some (rf 73), some (it v1), some (it (s1 72 14))]) (by decide +kernel : zi 160 21 = some (.istore_n 2, 1)) (Nat.le_of_ble_eq_true rfl) rfl ?_
    refine Fr.aldn (c := 73) (by decide +kernel : zi 160 22 = some (.aload_n 0, 1)) rfl ⟨by omega, by omega⟩ ?_
    refine Fr.ildn (by decide +kernel : zi 160 23 = some (.iload_n 1, 1)) rfl ?_
    refine Fr.pI (c := 72) (ci := 8) (k := 14) 14 (by decide +kernel : zi 160 24 = some (.putfield 139, 3)) (by decide +kernel) (by decide +kernel) (by decide +kernel) (by decide) rfl ?_
    refine Fr.ildn (by decide +kernel : zi 160 27 = some (.iload_n 2, 1)) rfl ?_
    exact Fr.retI (by decide +kernel : zi 160 28 = some (.ireturn, 1)) (by decide +kernel) h
  · have h := h.2 g9
    refine Fr.bipush (by decide +kernel : zi 160 14 = some (.bipush (-2), 2)) (by decide) ?_
    exact Fr.retI (by decide +kernel : zi 160 16 = some (.ireturn, 1)) (by decide +kernel) h
theorem e160 {xs : Nat → Int} {L : Nat} {d : Nat} {v1 : Int} {s : Pl} {Q : Option AV → Pl → Prop} (hd : 1 ≤ d) (k : Fr xs L T0 106 (d - 1) 160 0 [some (rf 73), some (it v1), none] [] s Q) : Ev xs L T0 106 d 160 [rf 73, it v1] s Q := Ev.of (by decide) _ rfl hd k
-- 161 X8_twoOf
theorem f161_0 {xs : Nat → Int} {L : Nat} {d : Nat} {v0 : Int} {v1 : Int} {v2 : Int} {s : Pl} {P : Int → Pl → Prop} (h : ((¬ v0 = 5 ∧ ¬ v0 = 6 ∧ ¬ v0 = 43 ∧ ¬ v0 = 45 ∧ ¬ v0 = 60 ∧ ¬ v0 = 61 → P (zw (v1 * v2)) s) ∧ (v0 = 5 → ((¬ v1 = 0 → Fr xs L T0 106 d 161 68 [some (it v0), some (it v1), some (it v2)] [] s (qi P)) ∧ (¬ (¬ v1 = 0) → ((v2 = 0 → P 0 s) ∧ (¬ (v2 = 0) → Fr xs L T0 106 d 161 68 [some (it v0), some (it v1), some (it v2)] [] s (qi P)))))) ∧ (v0 = 6 → ((v1 = 0 → P 0 s) ∧ (¬ (v1 = 0) → ((v2 = 0 → P 0 s) ∧ (¬ (v2 = 0) → P 1 s))))) ∧ (v0 = 43 → P (zw (v1 + v2)) s) ∧ (v0 = 45 → P (zw (v1 - v2)) s) ∧ (v0 = 60 → ((v2 ≤ v1 → P 0 s) ∧ (¬ (v2 ≤ v1) → P 1 s))) ∧ (v0 = 61 → ((¬ v1 = v2 → P 0 s) ∧ (¬ (¬ v1 = v2) → P 1 s))))) : Fr xs L T0 106 d 161 0 [some (it v0), some (it v1), some (it v2)] [] s (qi P) := by
  refine Fr.ildn (by decide +kernel : zi 161 0 = some (.iload_n 0, 1)) rfl ?_
  rcases (show (¬ v0 = 5 ∧ ¬ v0 = 6 ∧ ¬ v0 = 43 ∧ ¬ v0 = 45 ∧ ¬ v0 = 60 ∧ ¬ v0 = 61) ∨ v0 = 5 ∨ v0 = 6 ∨ v0 = 43 ∨ v0 = 45 ∨ v0 = 60 ∨ v0 = 61 by omega) with g9 | g9 | g9 | g9 | g9 | g9 | g9
  · have h := h.1 g9
    refine Fr.lsw (off := 117) (q := 118) (by decide +kernel : zi 161 1 = some (.lookupswitch 117 #[(5, 59), (6, 73), (43, 109), (45, 113), (60, 87), (61, 98)], 59)) (by decide +kernel) (zlso_no (by simp; omega)) (by decide +kernel) ?_
    refine Fr.ildn (by decide +kernel : zi 161 118 = some (.iload_n 1, 1)) rfl ?_
    refine Fr.ildn (by decide +kernel : zi 161 119 = some (.iload_n 2, 1)) rfl ?_
    refine Fr.imul (by decide +kernel : zi 161 120 = some (.imul, 1)) ?_
    exact Fr.retI (by decide +kernel : zi 161 121 = some (.ireturn, 1)) (by decide +kernel) h
  · have h := h.2.1 g9
    refine Fr.lsw (off := 59) (q := 60) (by decide +kernel : zi 161 1 = some (.lookupswitch 117 #[(5, 59), (6, 73), (43, 109), (45, 113), (60, 87), (61, 98)], 59)) (by decide +kernel) (by rw [g9]; decide +kernel) (by decide +kernel) ?_
    refine Fr.ildn (by decide +kernel : zi 161 60 = some (.iload_n 1, 1)) rfl ?_
    refine Fr.if0 (q := 68) (by decide +kernel : zi 161 61 = some (.ifCond .ne 7, 3)) (by decide +kernel) (fun g9 => ?_) (fun g9 => ?_)
    · have h := h.1 g9
      exact h
    · have h := h.2 g9
      refine Fr.ildn (by decide +kernel : zi 161 64 = some (.iload_n 2, 1)) rfl ?_
      refine Fr.if0 (q := 72) (by decide +kernel : zi 161 65 = some (.ifCond .eq 7, 3)) (by decide +kernel) (fun g9 => ?_) (fun g9 => ?_)
      · have h := h.1 g9
        refine Fr.iconst (by decide +kernel : zi 161 72 = some (.iconst 0, 1)) (by decide) ?_
        exact Fr.retI (by decide +kernel : zi 161 73 = some (.ireturn, 1)) (by decide +kernel) h
      · have h := h.2 g9
        exact h
  · have h := h.2.2.1 g9
    refine Fr.lsw (off := 73) (q := 74) (by decide +kernel : zi 161 1 = some (.lookupswitch 117 #[(5, 59), (6, 73), (43, 109), (45, 113), (60, 87), (61, 98)], 59)) (by decide +kernel) (by rw [g9]; decide +kernel) (by decide +kernel) ?_
    refine Fr.ildn (by decide +kernel : zi 161 74 = some (.iload_n 1, 1)) rfl ?_
    refine Fr.if0 (q := 86) (by decide +kernel : zi 161 75 = some (.ifCond .eq 11, 3)) (by decide +kernel) (fun g9 => ?_) (fun g9 => ?_)
    · have h := h.1 g9
      refine Fr.iconst (by decide +kernel : zi 161 86 = some (.iconst 0, 1)) (by decide) ?_
      exact Fr.retI (by decide +kernel : zi 161 87 = some (.ireturn, 1)) (by decide +kernel) h
    · have h := h.2 g9
      refine Fr.ildn (by decide +kernel : zi 161 78 = some (.iload_n 2, 1)) rfl ?_
      refine Fr.if0 (q := 86) (by decide +kernel : zi 161 79 = some (.ifCond .eq 7, 3)) (by decide +kernel) (fun g9 => ?_) (fun g9 => ?_)
      · have h := h.1 g9
        refine Fr.iconst (by decide +kernel : zi 161 86 = some (.iconst 0, 1)) (by decide) ?_
        exact Fr.retI (by decide +kernel : zi 161 87 = some (.ireturn, 1)) (by decide +kernel) h
      · have h := h.2 g9
        refine Fr.iconst (by decide +kernel : zi 161 82 = some (.iconst 1, 1)) (by decide) ?_
        refine Fr.goto (q := 87) (by decide +kernel : zi 161 83 = some (.goto 4, 3)) (by decide +kernel) ?_
        exact Fr.retI (by decide +kernel : zi 161 87 = some (.ireturn, 1)) (by decide +kernel) h
  · have h := h.2.2.2.1 g9
    refine Fr.lsw (off := 109) (q := 110) (by decide +kernel : zi 161 1 = some (.lookupswitch 117 #[(5, 59), (6, 73), (43, 109), (45, 113), (60, 87), (61, 98)], 59)) (by decide +kernel) (by rw [g9]; decide +kernel) (by decide +kernel) ?_
    refine Fr.ildn (by decide +kernel : zi 161 110 = some (.iload_n 1, 1)) rfl ?_
    refine Fr.ildn (by decide +kernel : zi 161 111 = some (.iload_n 2, 1)) rfl ?_
    refine Fr.iadd (by decide +kernel : zi 161 112 = some (.iadd, 1)) ?_
    exact Fr.retI (by decide +kernel : zi 161 113 = some (.ireturn, 1)) (by decide +kernel) h
  · have h := h.2.2.2.2.1 g9
    refine Fr.lsw (off := 113) (q := 114) (by decide +kernel : zi 161 1 = some (.lookupswitch 117 #[(5, 59), (6, 73), (43, 109), (45, 113), (60, 87), (61, 98)], 59)) (by decide +kernel) (by rw [g9]; decide +kernel) (by decide +kernel) ?_
    refine Fr.ildn (by decide +kernel : zi 161 114 = some (.iload_n 1, 1)) rfl ?_
    refine Fr.ildn (by decide +kernel : zi 161 115 = some (.iload_n 2, 1)) rfl ?_
    refine Fr.isub (by decide +kernel : zi 161 116 = some (.isub, 1)) ?_
    exact Fr.retI (by decide +kernel : zi 161 117 = some (.ireturn, 1)) (by decide +kernel) h
  · have h := h.2.2.2.2.2.1 g9
    refine Fr.lsw (off := 87) (q := 88) (by decide +kernel : zi 161 1 = some (.lookupswitch 117 #[(5, 59), (6, 73), (43, 109), (45, 113), (60, 87), (61, 98)], 59)) (by decide +kernel) (by rw [g9]; decide +kernel) (by decide +kernel) ?_
    refine Fr.ildn (by decide +kernel : zi 161 88 = some (.iload_n 1, 1)) rfl ?_
    refine Fr.ildn (by decide +kernel : zi 161 89 = some (.iload_n 2, 1)) rfl ?_
    refine Fr.if2 (q := 97) (by decide +kernel : zi 161 90 = some (.if_icmp .ge 7, 3)) (by decide +kernel) (fun g9 => ?_) (fun g9 => ?_)
    · have h := h.1 g9
      refine Fr.iconst (by decide +kernel : zi 161 97 = some (.iconst 0, 1)) (by decide) ?_
      exact Fr.retI (by decide +kernel : zi 161 98 = some (.ireturn, 1)) (by decide +kernel) h
    · have h := h.2 g9
      refine Fr.iconst (by decide +kernel : zi 161 93 = some (.iconst 1, 1)) (by decide) ?_
      refine Fr.goto (q := 98) (by decide +kernel : zi 161 94 = some (.goto 4, 3)) (by decide +kernel) ?_
      exact Fr.retI (by decide +kernel : zi 161 98 = some (.ireturn, 1)) (by decide +kernel) h
  · have h := h.2.2.2.2.2.2 g9
    refine Fr.lsw (off := 98) (q := 99) (by decide +kernel : zi 161 1 = some (.lookupswitch 117 #[(5, 59), (6, 73), (43, 109), (45, 113), (60, 87), (61, 98)], 59)) (by decide +kernel) (by rw [g9]; decide +kernel) (by decide +kernel) ?_
    refine Fr.ildn (by decide +kernel : zi 161 99 = some (.iload_n 1, 1)) rfl ?_
    refine Fr.ildn (by decide +kernel : zi 161 100 = some (.iload_n 2, 1)) rfl ?_
    refine Fr.if2 (q := 108) (by decide +kernel : zi 161 101 = some (.if_icmp .ne 7, 3)) (by decide +kernel) (fun g9 => ?_) (fun g9 => ?_)
    · have h := h.1 g9
      refine Fr.iconst (by decide +kernel : zi 161 108 = some (.iconst 0, 1)) (by decide) ?_
      exact Fr.retI (by decide +kernel : zi 161 109 = some (.ireturn, 1)) (by decide +kernel) h
    · have h := h.2 g9
      refine Fr.iconst (by decide +kernel : zi 161 104 = some (.iconst 1, 1)) (by decide) ?_
      refine Fr.goto (q := 109) (by decide +kernel : zi 161 105 = some (.goto 4, 3)) (by decide +kernel) ?_
      exact Fr.retI (by decide +kernel : zi 161 109 = some (.ireturn, 1)) (by decide +kernel) h
theorem e161 {xs : Nat → Int} {L : Nat} {d : Nat} {v0 : Int} {v1 : Int} {v2 : Int} {s : Pl} {Q : Option AV → Pl → Prop} (hd : 1 ≤ d) (k : Fr xs L T0 106 (d - 1) 161 0 [some (it v0), some (it v1), some (it v2)] [] s Q) : Ev xs L T0 106 d 161 [it v0, it v1, it v2] s Q := Ev.of (by decide) _ rfl hd k
theorem f161_68 {xs : Nat → Int} {L : Nat} {d : Nat} {v0 : Int} {v1 : Int} {v2 : Int} {s : Pl} {P : Int → Pl → Prop} (h : P 1 s) : Fr xs L T0 106 d 161 68 [some (it v0), some (it v1), some (it v2)] [] s (qi P) := by
  refine Fr.iconst (by decide +kernel : zi 161 68 = some (.iconst 1, 1)) (by decide) ?_
  refine Fr.goto (q := 73) (by decide +kernel : zi 161 69 = some (.goto 4, 3)) (by decide +kernel) ?_
  exact Fr.retI (by decide +kernel : zi 161 73 = some (.ireturn, 1)) (by decide +kernel) h
-- 162 X8_gives
theorem f162_0 {xs : Nat → Int} {L : Nat} {d : Nat} {v1 : Int} {s : Pl} {P : Int → Pl → Prop} (h : ((¬ s 72 14 = 0 → ((¬ v1 = 0 → (0 ≤ zw ((zw ((zw (3 * (s 72 14))) + v1)) - 1) ∧ zw ((zw ((zw (3 * (s 72 14))) + v1)) - 1) < 21) ∧ Fr xs L T0 106 d 162 82 [some (rf 73), some (it v1), some (it 0), none, none] [it (s 84 (zw ((zw ((zw (3 * (s 72 14))) + v1)) - 1)))] s (qi P)) ∧ (¬ (¬ v1 = 0) → Fr xs L T0 106 d 162 82 [some (rf 73), some (it v1), some (it 0), none, none] [it 0] s (qi P)))) ∧ (¬ (¬ s 72 14 = 0) → ((¬ v1 = 0 → ((¬ v1 = 1 → (0 ≤ (4 : Int) ∧ (4 : Int) < 6) ∧ (0 ≤ (5 : Int) ∧ (5 : Int) < 6) ∧ ((zw ((s 86 5) + 1) ≤ s 86 4 → P 0 s) ∧ (¬ (zw ((s 86 5) + 1) ≤ s 86 4) → (0 ≤ (3 : Int) ∧ (3 : Int) < 6) ∧ P (s 86 3) s))) ∧ (¬ (¬ v1 = 1) → (0 ≤ (3 : Int) ∧ (3 : Int) < 6) ∧ P (s 86 3) s))) ∧ (¬ (¬ v1 = 0) → P 1 s))))) : Fr xs L T0 106 d 162 0 [some (rf 73), some (it v1), none, none, none] [] s (qi P) := by
  refine Fr.aldn (c := 73) (by decide +kernel : zi 162 0 = some (.aload_n 0, 1)) rfl ⟨by omega, by omega⟩ ?_
  refine Fr.gI (c := 72) (ci := 8) (k := 14) (t := 0) 14 (by decide +kernel : zi 162 1 = some (.getfield 139, 3)) (by decide +kernel) (by decide +kernel) (by decide +kernel) (by decide) rfl ?_
  refine Fr.if0 (q := 57) (by decide +kernel : zi 162 4 = some (.ifCond .ne 53, 3)) (by decide +kernel) (fun g9 => ?_) (fun g9 => ?_)
  · have h := h.1 g9
    refine Fr.iconst (by decide +kernel : zi 162 57 = some (.iconst 0, 1)) (by decide) ?_
    refine Fr.istn (lv2 := [some (rf 73), some (it v1), some (it 0), none, none]) (by decide +kernel : zi 162 58 = some (.istore_n 2, 1)) (Nat.le_of_ble_eq_true rfl) rfl ?_
    refine Fr.ildn (by decide +kernel : zi 162 59 = some (.iload_n 1, 1)) rfl ?_
    refine Fr.if0 (q := 67) (by decide +kernel : zi 162 60 = some (.ifCond .ne 7, 3)) (by decide +kernel) (fun g9 => ?_) (fun g9 => ?_)
    · have h := h.1 g9
      refine Fr.aldn (c := 73) (by decide +kernel : zi 162 67 = some (.aload_n 0, 1)) rfl ⟨by omega, by omega⟩ ?_
      refine Fr.gR (c := 72) (c2 := 85) (ci := 8) (k := 17) 17 (by decide +kernel : zi 162 68 = some (.getfield 48, 3)) (by decide +kernel) (by decide +kernel) (by decide +kernel) (by decide) rfl (fun q => q (72, 17, 85) (by decide +kernel)) ?_
      refine Fr.iconst (by decide +kernel : zi 162 71 = some (.iconst 3, 1)) (by decide) ?_
      refine Fr.aldn (c := 73) (by decide +kernel : zi 162 72 = some (.aload_n 0, 1)) rfl ⟨by omega, by omega⟩ ?_
      refine Fr.gI (c := 72) (ci := 8) (k := 14) (t := 0) 14 (by decide +kernel : zi 162 73 = some (.getfield 139, 3)) (by decide +kernel) (by decide +kernel) (by decide +kernel) (by decide) rfl ?_
      refine Fr.imul (by decide +kernel : zi 162 76 = some (.imul, 1)) ?_
      refine Fr.ildn (by decide +kernel : zi 162 77 = some (.iload_n 1, 1)) rfl ?_
      refine Fr.iadd (by decide +kernel : zi 162 78 = some (.iadd, 1)) ?_
      refine Fr.iconst (by decide +kernel : zi 162 79 = some (.iconst 1, 1)) (by decide) ?_
      refine Fr.isub (by decide +kernel : zi 162 80 = some (.isub, 1)) ?_
      obtain ⟨⟨g0, g1⟩, h⟩ := h
      refine Fr.iald (c := 84) (N := 21) (by decide +kernel : zi 162 81 = some (.iaload, 1)) (by decide +kernel) (by decide) g0 g1 ?_
      exact h
    · have h := h.2 g9
      refine Fr.iconst (by decide +kernel : zi 162 63 = some (.iconst 0, 1)) (by decide) ?_
      refine Fr.goto (q := 82) (by decide +kernel : zi 162 64 = some (.goto 18, 3)) (by decide +kernel) ?_
      exact h
  · have h := h.2 g9
    refine Fr.ildn (by decide +kernel : zi 162 7 = some (.iload_n 1, 1)) rfl ?_
    refine Fr.if0 (q := 15) (by decide +kernel : zi 162 8 = some (.ifCond .ne 7, 3)) (by decide +kernel) (fun g9 => ?_) (fun g9 => ?_)
    · have h := h.1 g9
      refine Fr.ildn (by decide +kernel : zi 162 15 = some (.iload_n 1, 1)) rfl ?_
      refine Fr.iconst (by decide +kernel : zi 162 16 = some (.iconst 1, 1)) (by decide) ?_
      refine Fr.if2 (q := 29) (by decide +kernel : zi 162 17 = some (.if_icmp .ne 12, 3)) (by decide +kernel) (fun g9 => ?_) (fun g9 => ?_)
      · have h := h.1 g9
        refine Fr.aldn (c := 73) (by decide +kernel : zi 162 29 = some (.aload_n 0, 1)) rfl ⟨by omega, by omega⟩ ?_
        refine Fr.gR (c := 72) (c2 := 87) (ci := 8) (k := 26) 26 (by decide +kernel : zi 162 30 = some (.getfield 54, 3)) (by decide +kernel) (by decide +kernel) (by decide +kernel) (by decide) rfl (fun q => q (72, 26, 87) (by decide +kernel)) ?_
        refine Fr.iconst (by decide +kernel : zi 162 33 = some (.iconst 4, 1)) (by decide) ?_
        obtain ⟨⟨g0, g1⟩, h⟩ := h
        refine Fr.iald (c := 86) (N := 6) (by decide +kernel : zi 162 34 = some (.iaload, 1)) (by decide +kernel) (by decide) g0 g1 ?_
        refine Fr.aldn (c := 73) (by decide +kernel : zi 162 35 = some (.aload_n 0, 1)) rfl ⟨by omega, by omega⟩ ?_
        refine Fr.gR (c := 72) (c2 := 87) (ci := 8) (k := 26) 26 (by decide +kernel : zi 162 36 = some (.getfield 54, 3)) (by decide +kernel) (by decide +kernel) (by decide +kernel) (by decide) rfl (fun q => q (72, 26, 87) (by decide +kernel)) ?_
        refine Fr.iconst (by decide +kernel : zi 162 39 = some (.iconst 5, 1)) (by decide) ?_
        obtain ⟨⟨g0, g1⟩, h⟩ := h
        refine Fr.iald (c := 86) (N := 6) (by decide +kernel : zi 162 40 = some (.iaload, 1)) (by decide +kernel) (by decide) g0 g1 ?_
        refine Fr.iconst (by decide +kernel : zi 162 41 = some (.iconst 1, 1)) (by decide) ?_
        refine Fr.iadd (by decide +kernel : zi 162 42 = some (.iadd, 1)) ?_
        refine Fr.if2 (q := 55) (by decide +kernel : zi 162 43 = some (.if_icmp .ge 12, 3)) (by decide +kernel) (fun g9 => ?_) (fun g9 => ?_)
        · have h := h.1 g9
          refine Fr.iconst (by decide +kernel : zi 162 55 = some (.iconst 0, 1)) (by decide) ?_
          exact Fr.retI (by decide +kernel : zi 162 56 = some (.ireturn, 1)) (by decide +kernel) h
        · have h := h.2 g9
          refine Fr.aldn (c := 73) (by decide +kernel : zi 162 46 = some (.aload_n 0, 1)) rfl ⟨by omega, by omega⟩ ?_
          refine Fr.gR (c := 72) (c2 := 87) (ci := 8) (k := 26) 26 (by decide +kernel : zi 162 47 = some (.getfield 54, 3)) (by decide +kernel) (by decide +kernel) (by decide +kernel) (by decide) rfl (fun q => q (72, 26, 87) (by decide +kernel)) ?_
          refine Fr.iconst (by decide +kernel : zi 162 50 = some (.iconst 3, 1)) (by decide) ?_
          obtain ⟨⟨g0, g1⟩, h⟩ := h
          refine Fr.iald (c := 86) (N := 6) (by decide +kernel : zi 162 51 = some (.iaload, 1)) (by decide +kernel) (by decide) g0 g1 ?_
          refine Fr.goto (q := 56) (by decide +kernel : zi 162 52 = some (.goto 4, 3)) (by decide +kernel) ?_
          exact Fr.retI (by decide +kernel : zi 162 56 = some (.ireturn, 1)) (by decide +kernel) h
      · have h := h.2 g9
        refine Fr.aldn (c := 73) (by decide +kernel : zi 162 20 = some (.aload_n 0, 1)) rfl ⟨by omega, by omega⟩ ?_
        refine Fr.gR (c := 72) (c2 := 87) (ci := 8) (k := 26) 26 (by decide +kernel : zi 162 21 = some (.getfield 54, 3)) (by decide +kernel) (by decide +kernel) (by decide +kernel) (by decide) rfl (fun q => q (72, 26, 87) (by decide +kernel)) ?_
        refine Fr.iconst (by decide +kernel : zi 162 24 = some (.iconst 3, 1)) (by decide) ?_
        obtain ⟨⟨g0, g1⟩, h⟩ := h
        refine Fr.iald (c := 86) (N := 6) (by decide +kernel : zi 162 25 = some (.iaload, 1)) (by decide +kernel) (by decide) g0 g1 ?_
        refine Fr.goto (q := 56) (by decide +kernel : zi 162 26 = some (.goto 30, 3)) (by decide +kernel) ?_
        exact Fr.retI (by decide +kernel : zi 162 56 = some (.ireturn, 1)) (by decide +kernel) h
    · have h := h.2 g9
      refine Fr.iconst (by decide +kernel : zi 162 11 = some (.iconst 1, 1)) (by decide) ?_
      refine Fr.goto (q := 56) (by decide +kernel : zi 162 12 = some (.goto 44, 3)) (by decide +kernel) ?_
      exact Fr.retI (by decide +kernel : zi 162 56 = some (.ireturn, 1)) (by decide +kernel) h
theorem e162 {xs : Nat → Int} {L : Nat} {d : Nat} {v1 : Int} {s : Pl} {Q : Option AV → Pl → Prop} (hd : 1 ≤ d) (k : Fr xs L T0 106 (d - 1) 162 0 [some (rf 73), some (it v1), none, none, none] [] s Q) : Ev xs L T0 106 d 162 [rf 73, it v1] s Q := Ev.of (by decide) _ rfl hd k
theorem f162_82 {xs : Nat → Int} {L : Nat} {d : Nat} {v1 : Int} {v2 : Int} {vs0 : Int} {s : Pl} {P : Int → Pl → Prop} (h : Fr xs L T0 106 d 162 95 [some (rf 73), some (it v1), some (it v2), some (it vs0), some (it (zw ((zw (170 * (s 72 14))) + vs0)))] [] s (qi P)) : Fr xs L T0 106 d 162 82 [some (rf 73), some (it v1), some (it v2), none, none] [it vs0] s (qi P) := by
  refine Fr.istn (lv2 := [some (rf 73), some (it v1), some (it v2), some (it vs0), none]) (by decide +kernel : zi 162 82 = some (.istore_n 3, 1)) (Nat.le_of_ble_eq_true rfl) rfl ?_
  refine Fr.sipush (by decide +kernel : zi 162 83 = some (.sipush 170, 3)) (by decide) ?_
  refine Fr.aldn (c := 73) (by decide +kernel : zi 162 86 = some (.aload_n 0, 1)) rfl ⟨by omega, by omega⟩ ?_
  refine Fr.gI (c := 72) (ci := 8) (k := 14) (t := 0) 14 (by decide +kernel : zi 162 87 = some (.getfield 139, 3)) (by decide +kernel) (by decide +kernel) (by decide +kernel) (by decide) rfl ?_
  refine Fr.imul (by decide +kernel : zi 162 90 = some (.imul, 1)) ?_
  refine Fr.ildn (by decide +kernel : zi 162 91 = some (.iload_n 3, 1)) rfl ?_
  refine Fr.iadd (by decide +kernel : zi 162 92 = some (.iadd, 1)) ?_
  refine Fr.ist (lv2 := [some (rf 73), some (it v1), some (it v2), some (it vs0), some (it (zw ((zw (170 * (s 72 14))) + vs0)))]) (by decide +kernel : zi 162 93 = some (.istore 4, 2)) (Nat.le_of_ble_eq_true rfl) rfl ?_
  exact h
theorem f162_95 {xs : Nat → Int} {L : Nat} {d : Nat} {v1 : Int} {v2 : Int} {v3 : Int} {v4 : Int} {s : Pl} {P : Int → Pl → Prop} (h : (0 ≤ zw ((zw (3 * (s 72 14))) + v1) ∧ zw ((zw (3 * (s 72 14))) + v1) < 21) ∧ ((zw ((zw (170 * (s 72 14))) + (s 84 (zw ((zw (3 * (s 72 14))) + v1)))) ≤ v4 → (0 ≤ (0 : Int) ∧ (0 : Int) < 170) ∧ P (s 85 0) s) ∧ (¬ (zw ((zw (170 * (s 72 14))) + (s 84 (zw ((zw (3 * (s 72 14))) + v1)))) ≤ v4) → (0 ≤ v4 ∧ v4 < 1190) ∧ ((s 82 v4 < 1 ∨ 4 < s 82 v4 → (0 ≤ v4 ∧ v4 < 1190) ∧ (0 ≤ zw (v2 - 2) ∧ zw (v2 - 2) < 170) ∧ (0 ≤ zw (v2 - 1) ∧ zw (v2 - 1) < 170) ∧ Ev xs L T0 106 d 161 [it (s 82 v4), it (s 85 (zw (v2 - 2))), it (s 85 (zw (v2 - 1)))] s (qi fun r2 s1 => (0 ≤ zw (v2 - 2) ∧ zw (v2 - 2) < 170) ∧ Fr xs L T0 106 d 162 287 [some (rf 73), some (it v1), some (it (zw (v2 + (-1)))), some (it v3), some (it v4)] [] (zup s1 85 (zw (v2 - 2)) r2) (qi P))) ∧ (s 82 v4 = 1 → (0 ≤ v4 ∧ v4 < 1190) ∧ (0 ≤ v2 ∧ v2 < 170) ∧ Fr xs L T0 106 d 162 287 [some (rf 73), some (it v1), some (it (zw (v2 + 1))), some (it v3), some (it v4)] [] (zup s 85 v2 (s 83 v4)) (qi P)) ∧ (s 82 v4 = 2 → (0 ≤ v4 ∧ v4 < 1190) ∧ (0 ≤ s 83 v4 ∧ s 83 v4 < 6) ∧ (0 ≤ v2 ∧ v2 < 170) ∧ Fr xs L T0 106 d 162 287 [some (rf 73), some (it v1), some (it (zw (v2 + 1))), some (it v3), some (it v4)] [] (zup s 85 v2 (s 86 (s 83 v4))) (qi P)) ∧ (s 82 v4 = 3 → (0 ≤ zw (v2 - 1) ∧ zw (v2 - 1) < 170) ∧ ((¬ s 85 (zw (v2 - 1)) = 0 → Fr xs L T0 106 d 162 226 [some (rf 73), some (it v1), some (it v2), some (it v3), some (it v4)] [it 0, it (zw (v2 - 1)), rf 86] s (qi P)) ∧ (¬ (¬ s 85 (zw (v2 - 1)) = 0) → Fr xs L T0 106 d 162 226 [some (rf 73), some (it v1), some (it v2), some (it v3), some (it v4)] [it 1, it (zw (v2 - 1)), rf 86] s (qi P)))) ∧ (s 82 v4 = 4 → (0 ≤ zw (v2 - 1) ∧ zw (v2 - 1) < 170) ∧ (0 ≤ zw (v2 - 1) ∧ zw (v2 - 1) < 170) ∧ Fr xs L T0 106 d 162 287 [some (rf 73), some (it v1), some (it v2), some (it v3), some (it v4)] [] (zup s 85 (zw (v2 - 1)) (zw (-(s 85 (zw (v2 - 1)))))) (qi P)))))) : Fr xs L T0 106 d 162 95 [some (rf 73), some (it v1), some (it v2), some (it v3), some (it v4)] [] s (qi P) := by
  refine Fr.ild (by decide +kernel : zi 162 95 = some (.iload 4, 2)) rfl ?_
  refine Fr.sipush (by decide +kernel : zi 162 97 = some (.sipush 170, 3)) (by decide) ?_
  refine Fr.aldn (c := 73) (by decide +kernel : zi 162 100 = some (.aload_n 0, 1)) rfl ⟨by omega, by omega⟩ ?_
  refine Fr.gI (c := 72) (ci := 8) (k := 14) (t := 0) 14 (by decide +kernel : zi 162 101 = some (.getfield 139, 3)) (by decide +kernel) (by decide +kernel) (by decide +kernel) (by decide) rfl ?_
  refine Fr.imul (by decide +kernel : zi 162 104 = some (.imul, 1)) ?_
  refine Fr.aldn (c := 73) (by decide +kernel : zi 162 105 = some (.aload_n 0, 1)) rfl ⟨by omega, by omega⟩ ?_
  refine Fr.gR (c := 72) (c2 := 85) (ci := 8) (k := 17) 17 (by decide +kernel : zi 162 106 = some (.getfield 48, 3)) (by decide +kernel) (by decide +kernel) (by decide +kernel) (by decide) rfl (fun q => q (72, 17, 85) (by decide +kernel)) ?_
  refine Fr.iconst (by decide +kernel : zi 162 109 = some (.iconst 3, 1)) (by decide) ?_
  refine Fr.aldn (c := 73) (by decide +kernel : zi 162 110 = some (.aload_n 0, 1)) rfl ⟨by omega, by omega⟩ ?_
  refine Fr.gI (c := 72) (ci := 8) (k := 14) (t := 0) 14 (by decide +kernel : zi 162 111 = some (.getfield 139, 3)) (by decide +kernel) (by decide +kernel) (by decide +kernel) (by decide) rfl ?_
  refine Fr.imul (by decide +kernel : zi 162 114 = some (.imul, 1)) ?_
  refine Fr.ildn (by decide +kernel : zi 162 115 = some (.iload_n 1, 1)) rfl ?_
  refine Fr.iadd (by decide +kernel : zi 162 116 = some (.iadd, 1)) ?_
  obtain ⟨⟨g0, g1⟩, h⟩ := h
  refine Fr.iald (c := 84) (N := 21) (by decide +kernel : zi 162 117 = some (.iaload, 1)) (by decide +kernel) (by decide) g0 g1 ?_
  refine Fr.iadd (by decide +kernel : zi 162 118 = some (.iadd, 1)) ?_
  refine Fr.if2 (q := 293) (by decide +kernel : zi 162 119 = some (.if_icmp .ge 174, 3)) (by decide +kernel) (fun g9 => ?_) (fun g9 => ?_)
  · have h := h.1 g9
    refine Fr.aldn (c := 73) (by decide +kernel : zi 162 293 = some (.aload_n 0, 1)) rfl ⟨by omega, by omega⟩ ?_
    refine Fr.gR (c := 72) (c2 := 86) (ci := 8) (k := 25) 25 (by decide +kernel : zi 162 294 = some (.getfield 51, 3)) (by decide +kernel) (by decide +kernel) (by decide +kernel) (by decide) rfl (fun q => q (72, 25, 86) (by decide +kernel)) ?_
    refine Fr.iconst (by decide +kernel : zi 162 297 = some (.iconst 0, 1)) (by decide) ?_
    obtain ⟨⟨g0, g1⟩, h⟩ := h
    refine Fr.iald (c := 85) (N := 170) (by decide +kernel : zi 162 298 = some (.iaload, 1)) (by decide +kernel) (by decide) g0 g1 ?_
    exact Fr.retI (by decide +kernel : zi 162 299 = some (.ireturn, 1)) (by decide +kernel) h
  · have h := h.2 g9
    refine Fr.aldn (c := 73) (by decide +kernel : zi 162 122 = some (.aload_n 0, 1)) rfl ⟨by omega, by omega⟩ ?_
    refine Fr.gR (c := 72) (c2 := 83) (ci := 8) (k := 15) 15 (by decide +kernel : zi 162 123 = some (.getfield 42, 3)) (by decide +kernel) (by decide +kernel) (by decide +kernel) (by decide) rfl (fun q => q (72, 15, 83) (by decide +kernel)) ?_
    refine Fr.ild (by decide +kernel : zi 162 126 = some (.iload 4, 2)) rfl ?_
    obtain ⟨⟨g0, g1⟩, h⟩ := h
    refine Fr.iald (c := 82) (N := 1190) (by decide +kernel : zi 162 128 = some (.iaload, 1)) (by decide +kernel) (by decide) g0 g1 ?_
    rcases (show (s 82 v4 < 1 ∨ 4 < s 82 v4) ∨ s 82 v4 = 1 ∨ s 82 v4 = 2 ∨ s 82 v4 = 3 ∨ s 82 v4 = 4 by omega) with g9 | g9 | g9 | g9 | g9
    · have h := h.1 g9
      refine Fr.tsd (q := 250) (by decide +kernel : zi 162 129 = some (.tableswitch 121 1 4 #[31, 50, 74, 101], 31)) g9 (by decide +kernel) ?_
      refine Fr.aldn (c := 73) (by decide +kernel : zi 162 250 = some (.aload_n 0, 1)) rfl ⟨by omega, by omega⟩ ?_
      refine Fr.gR (c := 72) (c2 := 86) (ci := 8) (k := 25) 25 (by decide +kernel : zi 162 251 = some (.getfield 51, 3)) (by decide +kernel) (by decide +kernel) (by decide +kernel) (by decide) rfl (fun q => q (72, 25, 86) (by decide +kernel)) ?_
      refine Fr.ildn (by decide +kernel : zi 162 254 = some (.iload_n 2, 1)) rfl ?_
      refine Fr.iconst (by decide +kernel : zi 162 255 = some (.iconst 2, 1)) (by decide) ?_
      refine Fr.isub (by decide +kernel : zi 162 256 = some (.isub, 1)) ?_
      refine Fr.aldn (c := 73) (by decide +kernel : zi 162 257 = some (.aload_n 0, 1)) rfl ⟨by omega, by omega⟩ ?_
      refine Fr.gR (c := 72) (c2 := 83) (ci := 8) (k := 15) 15 (by decide +kernel : zi 162 258 = some (.getfield 42, 3)) (by decide +kernel) (by decide +kernel) (by decide +kernel) (by decide) rfl (fun q => q (72, 15, 83) (by decide +kernel)) ?_
      refine Fr.ild (by decide +kernel : zi 162 261 = some (.iload 4, 2)) rfl ?_
      obtain ⟨⟨g0, g1⟩, h⟩ := h
      refine Fr.iald (c := 82) (N := 1190) (by decide +kernel : zi 162 263 = some (.iaload, 1)) (by decide +kernel) (by decide) g0 g1 ?_
      refine Fr.aldn (c := 73) (by decide +kernel : zi 162 264 = some (.aload_n 0, 1)) rfl ⟨by omega, by omega⟩ ?_
      refine Fr.gR (c := 72) (c2 := 86) (ci := 8) (k := 25) 25 (by decide +kernel : zi 162 265 = some (.getfield 51, 3)) (by decide +kernel) (by decide +kernel) (by decide +kernel) (by decide) rfl (fun q => q (72, 25, 86) (by decide +kernel)) ?_
      refine Fr.ildn (by decide +kernel : zi 162 268 = some (.iload_n 2, 1)) rfl ?_
      refine Fr.iconst (by decide +kernel : zi 162 269 = some (.iconst 2, 1)) (by decide) ?_
      refine Fr.isub (by decide +kernel : zi 162 270 = some (.isub, 1)) ?_
      obtain ⟨⟨g0, g1⟩, h⟩ := h
      refine Fr.iald (c := 85) (N := 170) (by decide +kernel : zi 162 271 = some (.iaload, 1)) (by decide +kernel) (by decide) g0 g1 ?_
      refine Fr.aldn (c := 73) (by decide +kernel : zi 162 272 = some (.aload_n 0, 1)) rfl ⟨by omega, by omega⟩ ?_
      refine Fr.gR (c := 72) (c2 := 86) (ci := 8) (k := 25) 25 (by decide +kernel : zi 162 273 = some (.getfield 51, 3)) (by decide +kernel) (by decide +kernel) (by decide +kernel) (by decide) rfl (fun q => q (72, 25, 86) (by decide +kernel)) ?_
      refine Fr.ildn (by decide +kernel : zi 162 276 = some (.iload_n 2, 1)) rfl ?_
      refine Fr.iconst (by decide +kernel : zi 162 277 = some (.iconst 1, 1)) (by decide) ?_
      refine Fr.isub (by decide +kernel : zi 162 278 = some (.isub, 1)) ?_
      obtain ⟨⟨g0, g1⟩, h⟩ := h
      refine Fr.iald (c := 85) (N := 170) (by decide +kernel : zi 162 279 = some (.iaload, 1)) (by decide +kernel) (by decide) g0 g1 ?_
      refine Fr.callI (y2 := 161) (na := 3) (as := [it (s 82 v4), it (s 85 (zw (v2 - 2))), it (s 85 (zw (v2 - 1)))]) (rest := [it (zw (v2 - 2)), rf 86]) (by decide +kernel : zi 162 280 = some (.invokestatic 224, 3)) rfl (by decide +kernel) (by decide +kernel) rfl rfl (zok_S rfl (by decide) (by decide +kernel) rfl (Nat.le_of_ble_eq_true rfl)) h (fun r2 s1 h => ?_)
      obtain ⟨⟨g0, g1⟩, h⟩ := h
      refine Fr.iast (c := 85) (N := 170) (by decide +kernel : zi 162 283 = some (.iastore, 1)) (by decide +kernel) (by decide) g0 g1 ?_
      refine Fr.iinc (lv2 := [some (rf 73), some (it v1), some (it (zw (v2 + (-1)))), some (it v3), some (it v4)]) (by decide +kernel : zi 162 284 = some (.iinc 2 (-1), 3)) (Nat.le_of_ble_eq_true rfl) rfl rfl ?_
      exact h
    · have h := h.2.1 g9
      refine Fr.tsw (off := 31) (q := 160) (by decide +kernel : zi 162 129 = some (.tableswitch 121 1 4 #[31, 50, 74, 101], 31)) (by omega) (by rw [g9]; decide +kernel) (by decide +kernel) ?_
      refine Fr.aldn (c := 73) (by decide +kernel : zi 162 160 = some (.aload_n 0, 1)) rfl ⟨by omega, by omega⟩ ?_
      refine Fr.gR (c := 72) (c2 := 86) (ci := 8) (k := 25) 25 (by decide +kernel : zi 162 161 = some (.getfield 51, 3)) (by decide +kernel) (by decide +kernel) (by decide +kernel) (by decide) rfl (fun q => q (72, 25, 86) (by decide +kernel)) ?_
      refine Fr.ildn (by decide +kernel : zi 162 164 = some (.iload_n 2, 1)) rfl ?_
      refine Fr.aldn (c := 73) (by decide +kernel : zi 162 165 = some (.aload_n 0, 1)) rfl ⟨by omega, by omega⟩ ?_
      refine Fr.gR (c := 72) (c2 := 84) (ci := 8) (k := 16) 16 (by decide +kernel : zi 162 166 = some (.getfield 45, 3)) (by decide +kernel) (by decide +kernel) (by decide +kernel) (by decide) rfl (fun q => q (72, 16, 84) (by decide +kernel)) ?_
      refine Fr.ild (by decide +kernel : zi 162 169 = some (.iload 4, 2)) rfl ?_
      obtain ⟨⟨g0, g1⟩, h⟩ := h
      refine Fr.iald (c := 83) (N := 1190) (by decide +kernel : zi 162 171 = some (.iaload, 1)) (by decide +kernel) (by decide) g0 g1 ?_
      obtain ⟨⟨g0, g1⟩, h⟩ := h
      refine Fr.iast (c := 85) (N := 170) (by decide +kernel : zi 162 172 = some (.iastore, 1)) (by decide +kernel) (by decide) g0 g1 ?_
      refine Fr.iinc (lv2 := [some (rf 73), some (it v1), some (it (zw (v2 + 1))), some (it v3), some (it v4)]) (by decide +kernel : zi 162 173 = some (.iinc 2 1, 3)) (Nat.le_of_ble_eq_true rfl) rfl rfl ?_
      refine Fr.goto (q := 287) (by decide +kernel : zi 162 176 = some (.goto 111, 3)) (by decide +kernel) ?_
      exact h
    · have h := h.2.2.1 g9
      refine Fr.tsw (off := 50) (q := 179) (by decide +kernel : zi 162 129 = some (.tableswitch 121 1 4 #[31, 50, 74, 101], 31)) (by omega) (by rw [g9]; decide +kernel) (by decide +kernel) ?_
      refine Fr.aldn (c := 73) (by decide +kernel : zi 162 179 = some (.aload_n 0, 1)) rfl ⟨by omega, by omega⟩ ?_
      refine Fr.gR (c := 72) (c2 := 86) (ci := 8) (k := 25) 25 (by decide +kernel : zi 162 180 = some (.getfield 51, 3)) (by decide +kernel) (by decide +kernel) (by decide +kernel) (by decide) rfl (fun q => q (72, 25, 86) (by decide +kernel)) ?_
      refine Fr.ildn (by decide +kernel : zi 162 183 = some (.iload_n 2, 1)) rfl ?_
      refine Fr.aldn (c := 73) (by decide +kernel : zi 162 184 = some (.aload_n 0, 1)) rfl ⟨by omega, by omega⟩ ?_
      refine Fr.gR (c := 72) (c2 := 87) (ci := 8) (k := 26) 26 (by decide +kernel : zi 162 185 = some (.getfield 54, 3)) (by decide +kernel) (by decide +kernel) (by decide +kernel) (by decide) rfl (fun q => q (72, 26, 87) (by decide +kernel)) ?_
      refine Fr.aldn (c := 73) (by decide +kernel : zi 162 188 = some (.aload_n 0, 1)) rfl ⟨by omega, by omega⟩ ?_
      refine Fr.gR (c := 72) (c2 := 84) (ci := 8) (k := 16) 16 (by decide +kernel : zi 162 189 = some (.getfield 45, 3)) (by decide +kernel) (by decide +kernel) (by decide +kernel) (by decide) rfl (fun q => q (72, 16, 84) (by decide +kernel)) ?_
      refine Fr.ild (by decide +kernel : zi 162 192 = some (.iload 4, 2)) rfl ?_
      obtain ⟨⟨g0, g1⟩, h⟩ := h
      refine Fr.iald (c := 83) (N := 1190) (by decide +kernel : zi 162 194 = some (.iaload, 1)) (by decide +kernel) (by decide) g0 g1 ?_
      obtain ⟨⟨g0, g1⟩, h⟩ := h
      refine Fr.iald (c := 86) (N := 6) (by decide +kernel : zi 162 195 = some (.iaload, 1)) (by decide +kernel) (by decide) g0 g1 ?_
      obtain ⟨⟨g0, g1⟩, h⟩ := h
      refine Fr.iast (c := 85) (N := 170) (by decide +kernel : zi 162 196 = some (.iastore, 1)) (by decide +kernel) (by decide) g0 g1 ?_
      refine Fr.iinc (lv2 := [some (rf 73), some (it v1), some (it (zw (v2 + 1))), some (it v3), some (it v4)]) (by decide +kernel : zi 162 197 = some (.iinc 2 1, 3)) (Nat.le_of_ble_eq_true rfl) rfl rfl ?_
      refine Fr.goto (q := 287) (by decide +kernel : zi 162 200 = some (.goto 87, 3)) (by decide +kernel) ?_
      exact h
    · have h := h.2.2.2.1 g9
      refine Fr.tsw (off := 74) (q := 203) (by decide +kernel : zi 162 129 = some (.tableswitch 121 1 4 #[31, 50, 74, 101], 31)) (by omega) (by rw [g9]; decide +kernel) (by decide +kernel) ?_
      refine Fr.aldn (c := 73) (by decide +kernel : zi 162 203 = some (.aload_n 0, 1)) rfl ⟨by omega, by omega⟩ ?_
      refine Fr.gR (c := 72) (c2 := 86) (ci := 8) (k := 25) 25 (by decide +kernel : zi 162 204 = some (.getfield 51, 3)) (by decide +kernel) (by decide +kernel) (by decide +kernel) (by decide) rfl (fun q => q (72, 25, 86) (by decide +kernel)) ?_
      refine Fr.ildn (by decide +kernel : zi 162 207 = some (.iload_n 2, 1)) rfl ?_
      refine Fr.iconst (by decide +kernel : zi 162 208 = some (.iconst 1, 1)) (by decide) ?_
      refine Fr.isub (by decide +kernel : zi 162 209 = some (.isub, 1)) ?_
      refine Fr.aldn (c := 73) (by decide +kernel : zi 162 210 = some (.aload_n 0, 1)) rfl ⟨by omega, by omega⟩ ?_
      refine Fr.gR (c := 72) (c2 := 86) (ci := 8) (k := 25) 25 (by decide +kernel : zi 162 211 = some (.getfield 51, 3)) (by decide +kernel) (by decide +kernel) (by decide +kernel) (by decide) rfl (fun q => q (72, 25, 86) (by decide +kernel)) ?_
      refine Fr.ildn (by decide +kernel : zi 162 214 = some (.iload_n 2, 1)) rfl ?_
      refine Fr.iconst (by decide +kernel : zi 162 215 = some (.iconst 1, 1)) (by decide) ?_
      refine Fr.isub (by decide +kernel : zi 162 216 = some (.isub, 1)) ?_
      obtain ⟨⟨g0, g1⟩, h⟩ := h
      refine Fr.iald (c := 85) (N := 170) (by decide +kernel : zi 162 217 = some (.iaload, 1)) (by decide +kernel) (by decide) g0 g1 ?_
      refine Fr.if0 (q := 225) (by decide +kernel : zi 162 218 = some (.ifCond .ne 7, 3)) (by decide +kernel) (fun g9 => ?_) (fun g9 => ?_)
      · have h := h.1 g9
        refine Fr.iconst (by decide +kernel : zi 162 225 = some (.iconst 0, 1)) (by decide) ?_
        exact h
      · have h := h.2 g9
        refine Fr.iconst (by decide +kernel : zi 162 221 = some (.iconst 1, 1)) (by decide) ?_
        refine Fr.goto (q := 226) (by decide +kernel : zi 162 222 = some (.goto 4, 3)) (by decide +kernel) ?_
        exact h
    · have h := h.2.2.2.2 g9
      refine Fr.tsw (off := 101) (q := 230) (by decide +kernel : zi 162 129 = some (.tableswitch 121 1 4 #[31, 50, 74, 101], 31)) (by omega) (by rw [g9]; decide +kernel) (by decide +kernel) ?_
      refine Fr.aldn (c := 73) (by decide +kernel : zi 162 230 = some (.aload_n 0, 1)) rfl ⟨by omega, by omega⟩ ?_
      refine Fr.gR (c := 72) (c2 := 86) (ci := 8) (k := 25) 25 (by decide +kernel : zi 162 231 = some (.getfield 51, 3)) (by decide +kernel) (by decide +kernel) (by decide +kernel) (by decide) rfl (fun q => q (72, 25, 86) (by decide +kernel)) ?_
      refine Fr.ildn (by decide +kernel : zi 162 234 = some (.iload_n 2, 1)) rfl ?_
      refine Fr.iconst (by decide +kernel : zi 162 235 = some (.iconst 1, 1)) (by decide) ?_
      refine Fr.isub (by decide +kernel : zi 162 236 = some (.isub, 1)) ?_
      refine Fr.aldn (c := 73) (by decide +kernel : zi 162 237 = some (.aload_n 0, 1)) rfl ⟨by omega, by omega⟩ ?_
      refine Fr.gR (c := 72) (c2 := 86) (ci := 8) (k := 25) 25 (by decide +kernel : zi 162 238 = some (.getfield 51, 3)) (by decide +kernel) (by decide +kernel) (by decide +kernel) (by decide) rfl (fun q => q (72, 25, 86) (by decide +kernel)) ?_
      refine Fr.ildn (by decide +kernel : zi 162 241 = some (.iload_n 2, 1)) rfl ?_
      refine Fr.iconst (by decide +kernel : zi 162 242 = some (.iconst 1, 1)) (by decide) ?_
      refine Fr.isub (by decide +kernel : zi 162 243 = some (.isub, 1)) ?_
      obtain ⟨⟨g0, g1⟩, h⟩ := h
      refine Fr.iald (c := 85) (N := 170) (by decide +kernel : zi 162 244 = some (.iaload, 1)) (by decide +kernel) (by decide) g0 g1 ?_
      refine Fr.ineg (by decide +kernel : zi 162 245 = some (.ineg, 1)) ?_
      obtain ⟨⟨g0, g1⟩, h⟩ := h
      refine Fr.iast (c := 85) (N := 170) (by decide +kernel : zi 162 246 = some (.iastore, 1)) (by decide +kernel) (by decide) g0 g1 ?_
      refine Fr.goto (q := 287) (by decide +kernel : zi 162 247 = some (.goto 40, 3)) (by decide +kernel) ?_
      exact h
theorem f162_226 {xs : Nat → Int} {L : Nat} {d : Nat} {v1 : Int} {v2 : Int} {v3 : Int} {v4 : Int} {vs0 : Int} {vs1 : Int} {s : Pl} {P : Int → Pl → Prop} (h : (0 ≤ vs1 ∧ vs1 < 170) ∧ Fr xs L T0 106 d 162 287 [some (rf 73), some (it v1), some (it v2), some (it v3), some (it v4)] [] (zup s 85 vs1 vs0) (qi P)) : Fr xs L T0 106 d 162 226 [some (rf 73), some (it v1), some (it v2), some (it v3), some (it v4)] [it vs0, it vs1, rf 86] s (qi P) := by
  obtain ⟨⟨g0, g1⟩, h⟩ := h
  refine Fr.iast (c := 85) (N := 170) (by decide +kernel : zi 162 226 = some (.iastore, 1)) (by decide +kernel) (by decide) g0 g1 ?_
  refine Fr.goto (q := 287) (by decide +kernel : zi 162 227 = some (.goto 60, 3)) (by decide +kernel) ?_
  exact h
theorem f162_287 {xs : Nat → Int} {L : Nat} {d : Nat} {v1 : Int} {v2 : Int} {v3 : Int} {v4 : Int} {s : Pl} {P : Int → Pl → Prop} (h : Fr xs L T0 106 d 162 95 [some (rf 73), some (it v1), some (it v2), some (it v3), some (it (zw (v4 + 1)))] [] s (qi P)) : Fr xs L T0 106 d 162 287 [some (rf 73), some (it v1), some (it v2), some (it v3), some (it v4)] [] s (qi P) := by
  refine Fr.iinc (lv2 := [some (rf 73), some (it v1), some (it v2), some (it v3), some (it (zw (v4 + 1)))]) (by decide +kernel : zi 162 287 = some (.iinc 4 1, 3)) (Nat.le_of_ble_eq_true rfl) rfl rfl ?_
  refine Fr.goto (q := 95) (by decide +kernel : zi 162 290 = some (.goto (-195), 3)) (by decide +kernel) ?_
  exact h
-- 163 X8_noFacts
theorem f163_0 {xs : Nat → Int} {L : Nat} {d : Nat}  {s : Pl} {P : Pl → Prop} (h : Fr xs L T0 106 d 163 2 [some (rf 73), some (it 0)] [] s (qv P)) : Fr xs L T0 106 d 163 0 [some (rf 73), none] [] s (qv P) := by
  refine Fr.iconst (by decide +kernel : zi 163 0 = some (.iconst 0, 1)) (by decide) ?_
  refine Fr.istn (lv2 := [some (rf 73), some (it 0)]) (by decide +kernel : zi 163 1 = some (.istore_n 1, 1)) (Nat.le_of_ble_eq_true rfl) rfl ?_
  exact h
theorem e163 {xs : Nat → Int} {L : Nat} {d : Nat}  {s : Pl} {Q : Option AV → Pl → Prop} (hd : 1 ≤ d) (k : Fr xs L T0 106 (d - 1) 163 0 [some (rf 73), none] [] s Q) : Ev xs L T0 106 d 163 [rf 73] s Q := Ev.of (by decide) _ rfl hd k
theorem f163_2 {xs : Nat → Int} {L : Nat} {d : Nat} {v1 : Int} {s : Pl} {P : Pl → Prop} (h : ((6 ≤ v1 → P s) ∧ (¬ (6 ≤ v1) → (0 ≤ v1 ∧ v1 < 6) ∧ Fr xs L T0 106 d 163 2 [some (rf 73), some (it (zw (v1 + 1)))] [] (zup s 86 v1 0) (qv P)))) : Fr xs L T0 106 d 163 2 [some (rf 73), some (it v1)] [] s (qv P) := by
  refine Fr.ildn (by decide +kernel : zi 163 2 = some (.iload_n 1, 1)) rfl ?_
  refine Fr.bipush (by decide +kernel : zi 163 3 = some (.bipush 6, 2)) (by decide) ?_
  refine Fr.if2 (q := 21) (by decide +kernel : zi 163 5 = some (.if_icmp .ge 16, 3)) (by decide +kernel) (fun g9 => ?_) (fun g9 => ?_)
  · have h := h.1 g9
    exact Fr.retV (by decide +kernel : zi 163 21 = some (.return_, 1)) (by decide +kernel) h
  · have h := h.2 g9
    refine Fr.aldn (c := 73) (by decide +kernel : zi 163 8 = some (.aload_n 0, 1)) rfl ⟨by omega, by omega⟩ ?_
    refine Fr.gR (c := 72) (c2 := 87) (ci := 8) (k := 26) 26 (by decide +kernel : zi 163 9 = some (.getfield 54, 3)) (by decide +kernel) (by decide +kernel) (by decide +kernel) (by decide) rfl (fun q => q (72, 26, 87) (by decide +kernel)) ?_
    refine Fr.ildn (by decide +kernel : zi 163 12 = some (.iload_n 1, 1)) rfl ?_
    refine Fr.iconst (by decide +kernel : zi 163 13 = some (.iconst 0, 1)) (by decide) ?_
    obtain ⟨⟨g0, g1⟩, h⟩ := h
    refine Fr.iast (c := 86) (N := 6) (by decide +kernel : zi 163 14 = some (.iastore, 1)) (by decide +kernel) (by decide) g0 g1 ?_
    refine Fr.iinc (lv2 := [some (rf 73), some (it (zw (v1 + 1)))]) (by decide +kernel : zi 163 15 = some (.iinc 1 1, 3)) (Nat.le_of_ble_eq_true rfl) rfl rfl ?_
    refine Fr.goto (q := 2) (by decide +kernel : zi 163 18 = some (.goto (-16), 3)) (by decide +kernel) ?_
    exact h
-- 164 X8_saysMay
theorem f164_0 {xs : Nat → Int} {L : Nat} {d : Nat} {v1 : Int} {v2 : Int} {v3 : Int} {s : Pl} {P : Int → Pl → Prop} (h : Ev xs L T0 106 d 163 [rf 73] s (qv fun s1 => (0 ≤ (0 : Int) ∧ (0 : Int) < 6) ∧ (0 ≤ (1 : Int) ∧ (1 : Int) < 6) ∧ (0 ≤ (2 : Int) ∧ (2 : Int) < 6) ∧ Ev xs L T0 106 d 162 [rf 73, it 0] (zup (zup (zup s1 86 0 v1) 86 1 v2) 86 2 v3) (qi fun r3 s2 => ((r3 = 0 → P 0 s2) ∧ (¬ (r3 = 0) → P 1 s2))))) : Fr xs L T0 106 d 164 0 [some (rf 73), some (it v1), some (it v2), some (it v3)] [] s (qi P) := by
  refine Fr.aldn (c := 73) (by decide +kernel : zi 164 0 = some (.aload_n 0, 1)) rfl ⟨by omega, by omega⟩ ?_
  refine Fr.callV (y2 := 163) (na := 1) (as := [rf 73]) (rest := []) (by decide +kernel : zi 164 1 = some (.invokevirtual 228, 3)) rfl (by decide +kernel) (by decide +kernel) rfl rfl (zok_V rfl (by decide) (by decide +kernel) (by decide +kernel) (zrecv_c (c := 72) (by decide) (by decide +kernel)) rfl (Nat.le_of_ble_eq_true rfl)) h (fun s1 h => ?_)
  refine Fr.aldn (c := 73) (by decide +kernel : zi 164 4 = some (.aload_n 0, 1)) rfl ⟨by omega, by omega⟩ ?_
  refine Fr.gR (c := 72) (c2 := 87) (ci := 8) (k := 26) 26 (by decide +kernel : zi 164 5 = some (.getfield 54, 3)) (by decide +kernel) (by decide +kernel) (by decide +kernel) (by decide) rfl (fun q => q (72, 26, 87) (by decide +kernel)) ?_
  refine Fr.iconst (by decide +kernel : zi 164 8 = some (.iconst 0, 1)) (by decide) ?_
  refine Fr.ildn (by decide +kernel : zi 164 9 = some (.iload_n 1, 1)) rfl ?_
  obtain ⟨⟨g0, g1⟩, h⟩ := h
  refine Fr.iast (c := 86) (N := 6) (by decide +kernel : zi 164 10 = some (.iastore, 1)) (by decide +kernel) (by decide) g0 g1 ?_
  refine Fr.aldn (c := 73) (by decide +kernel : zi 164 11 = some (.aload_n 0, 1)) rfl ⟨by omega, by omega⟩ ?_
  refine Fr.gR (c := 72) (c2 := 87) (ci := 8) (k := 26) 26 (by decide +kernel : zi 164 12 = some (.getfield 54, 3)) (by decide +kernel) (by decide +kernel) (by decide +kernel) (by decide) rfl (fun q => q (72, 26, 87) (by decide +kernel)) ?_
  refine Fr.iconst (by decide +kernel : zi 164 15 = some (.iconst 1, 1)) (by decide) ?_
  refine Fr.ildn (by decide +kernel : zi 164 16 = some (.iload_n 2, 1)) rfl ?_
  obtain ⟨⟨g0, g1⟩, h⟩ := h
  refine Fr.iast (c := 86) (N := 6) (by decide +kernel : zi 164 17 = some (.iastore, 1)) (by decide +kernel) (by decide) g0 g1 ?_
  refine Fr.aldn (c := 73) (by decide +kernel : zi 164 18 = some (.aload_n 0, 1)) rfl ⟨by omega, by omega⟩ ?_
  refine Fr.gR (c := 72) (c2 := 87) (ci := 8) (k := 26) 26 (by decide +kernel : zi 164 19 = some (.getfield 54, 3)) (by decide +kernel) (by decide +kernel) (by decide +kernel) (by decide) rfl (fun q => q (72, 26, 87) (by decide +kernel)) ?_
  refine Fr.iconst (by decide +kernel : zi 164 22 = some (.iconst 2, 1)) (by decide) ?_
  refine Fr.ildn (by decide +kernel : zi 164 23 = some (.iload_n 3, 1)) rfl ?_
  obtain ⟨⟨g0, g1⟩, h⟩ := h
  refine Fr.iast (c := 86) (N := 6) (by decide +kernel : zi 164 24 = some (.iastore, 1)) (by decide +kernel) (by decide) g0 g1 ?_
  refine Fr.aldn (c := 73) (by decide +kernel : zi 164 25 = some (.aload_n 0, 1)) rfl ⟨by omega, by omega⟩ ?_
  refine Fr.iconst (by decide +kernel : zi 164 26 = some (.iconst 0, 1)) (by decide) ?_
  refine Fr.callI (y2 := 162) (na := 2) (as := [rf 73, it 0]) (rest := []) (by decide +kernel : zi 164 27 = some (.invokevirtual 231, 3)) rfl (by decide +kernel) (by decide +kernel) rfl rfl (zok_V rfl (by decide) (by decide +kernel) (by decide +kernel) (zrecv_c (c := 72) (by decide) (by decide +kernel)) rfl (Nat.le_of_ble_eq_true rfl)) h (fun r3 s2 h => ?_)
  refine Fr.if0 (q := 37) (by decide +kernel : zi 164 30 = some (.ifCond .eq 7, 3)) (by decide +kernel) (fun g9 => ?_) (fun g9 => ?_)
  · have h := h.1 g9
    refine Fr.iconst (by decide +kernel : zi 164 37 = some (.iconst 0, 1)) (by decide) ?_
    exact Fr.retZ (by decide +kernel : zi 164 38 = some (.ireturn, 1)) (by decide +kernel) (by decide) h
  · have h := h.2 g9
    refine Fr.iconst (by decide +kernel : zi 164 33 = some (.iconst 1, 1)) (by decide) ?_
    refine Fr.goto (q := 38) (by decide +kernel : zi 164 34 = some (.goto 4, 3)) (by decide +kernel) ?_
    exact Fr.retZ (by decide +kernel : zi 164 38 = some (.ireturn, 1)) (by decide +kernel) (by decide) h
theorem e164 {xs : Nat → Int} {L : Nat} {d : Nat} {v1 : Int} {v2 : Int} {v3 : Int} {s : Pl} {Q : Option AV → Pl → Prop} (hd : 1 ≤ d) (k : Fr xs L T0 106 (d - 1) 164 0 [some (rf 73), some (it v1), some (it v2), some (it v3)] [] s Q) : Ev xs L T0 106 d 164 [rf 73, it v1, it v2, it v3] s Q := Ev.of (by decide) _ rfl hd k
-- 165 X8_rowOf
theorem f165_0 {xs : Nat → Int} {L : Nat} {d : Nat} {v1 : Int} {v2 : Int} {s : Pl} {P : Int → Pl → Prop} (h : Ev xs L T0 106 d 163 [rf 73] s (qv fun s1 => (0 ≤ (0 : Int) ∧ (0 : Int) < 6) ∧ (0 ≤ (1 : Int) ∧ (1 : Int) < 6) ∧ (0 ≤ zw ((zw (4 * v1)) + v2) ∧ zw ((zw (4 * v1)) + v2) < 16) ∧ (0 ≤ (3 : Int) ∧ (3 : Int) < 6) ∧ Ev xs L T0 106 d 162 [rf 73, it 1] (zup (zup (zup s1 86 0 v1) 86 1 v2) 86 3 ((zup (zup s1 86 0 v1) 86 1 v2) 73 (zw ((zw (4 * v1)) + v2)))) (qi fun r3 s2 => Ev xs L T0 106 d 133 [it r3, it 1, it 99] s2 (qi fun r5 s4 => P r5 s4)))) : Fr xs L T0 106 d 165 0 [some (rf 73), some (it v1), some (it v2)] [] s (qi P) := by
  refine Fr.aldn (c := 73) (by decide +kernel : zi 165 0 = some (.aload_n 0, 1)) rfl ⟨by omega, by omega⟩ ?_
  refine Fr.callV (y2 := 163) (na := 1) (as := [rf 73]) (rest := []) (by decide +kernel : zi 165 1 = some (.invokevirtual 228, 3)) rfl (by decide +kernel) (by decide +kernel) rfl rfl (zok_V rfl (by decide) (by decide +kernel) (by decide +kernel) (zrecv_c (c := 72) (by decide) (by decide +kernel)) rfl (Nat.le_of_ble_eq_true rfl)) h (fun s1 h => ?_)
  refine Fr.aldn (c := 73) (by decide +kernel : zi 165 4 = some (.aload_n 0, 1)) rfl ⟨by omega, by omega⟩ ?_
  refine Fr.gR (c := 72) (c2 := 87) (ci := 8) (k := 26) 26 (by decide +kernel : zi 165 5 = some (.getfield 54, 3)) (by decide +kernel) (by decide +kernel) (by decide +kernel) (by decide) rfl (fun q => q (72, 26, 87) (by decide +kernel)) ?_
  refine Fr.iconst (by decide +kernel : zi 165 8 = some (.iconst 0, 1)) (by decide) ?_
  refine Fr.ildn (by decide +kernel : zi 165 9 = some (.iload_n 1, 1)) rfl ?_
  obtain ⟨⟨g0, g1⟩, h⟩ := h
  refine Fr.iast (c := 86) (N := 6) (by decide +kernel : zi 165 10 = some (.iastore, 1)) (by decide +kernel) (by decide) g0 g1 ?_
  refine Fr.aldn (c := 73) (by decide +kernel : zi 165 11 = some (.aload_n 0, 1)) rfl ⟨by omega, by omega⟩ ?_
  refine Fr.gR (c := 72) (c2 := 87) (ci := 8) (k := 26) 26 (by decide +kernel : zi 165 12 = some (.getfield 54, 3)) (by decide +kernel) (by decide +kernel) (by decide +kernel) (by decide) rfl (fun q => q (72, 26, 87) (by decide +kernel)) ?_
  refine Fr.iconst (by decide +kernel : zi 165 15 = some (.iconst 1, 1)) (by decide) ?_
  refine Fr.ildn (by decide +kernel : zi 165 16 = some (.iload_n 2, 1)) rfl ?_
  obtain ⟨⟨g0, g1⟩, h⟩ := h
  refine Fr.iast (c := 86) (N := 6) (by decide +kernel : zi 165 17 = some (.iastore, 1)) (by decide +kernel) (by decide) g0 g1 ?_
  refine Fr.aldn (c := 73) (by decide +kernel : zi 165 18 = some (.aload_n 0, 1)) rfl ⟨by omega, by omega⟩ ?_
  refine Fr.gR (c := 72) (c2 := 87) (ci := 8) (k := 26) 26 (by decide +kernel : zi 165 19 = some (.getfield 54, 3)) (by decide +kernel) (by decide +kernel) (by decide +kernel) (by decide) rfl (fun q => q (72, 26, 87) (by decide +kernel)) ?_
  refine Fr.iconst (by decide +kernel : zi 165 22 = some (.iconst 3, 1)) (by decide) ?_
  refine Fr.aldn (c := 73) (by decide +kernel : zi 165 23 = some (.aload_n 0, 1)) rfl ⟨by omega, by omega⟩ ?_
  refine Fr.gR (c := 72) (c2 := 74) (ci := 8) (k := 1) 1 (by decide +kernel : zi 165 24 = some (.getfield 7, 3)) (by decide +kernel) (by decide +kernel) (by decide +kernel) (by decide) rfl (fun q => q (72, 1, 74) (by decide +kernel)) ?_
  refine Fr.iconst (by decide +kernel : zi 165 27 = some (.iconst 4, 1)) (by decide) ?_
  refine Fr.ildn (by decide +kernel : zi 165 28 = some (.iload_n 1, 1)) rfl ?_
  refine Fr.imul (by decide +kernel : zi 165 29 = some (.imul, 1)) ?_
  refine Fr.ildn (by decide +kernel : zi 165 30 = some (.iload_n 2, 1)) rfl ?_
  refine Fr.iadd (by decide +kernel : zi 165 31 = some (.iadd, 1)) ?_
  obtain ⟨⟨g0, g1⟩, h⟩ := h
  refine Fr.iald (c := 73) (N := 16) (by decide +kernel : zi 165 32 = some (.iaload, 1)) (by decide +kernel) (by decide) g0 g1 ?_
  obtain ⟨⟨g0, g1⟩, h⟩ := h
  refine Fr.iast (c := 86) (N := 6) (by decide +kernel : zi 165 33 = some (.iastore, 1)) (by decide +kernel) (by decide) g0 g1 ?_
  refine Fr.aldn (c := 73) (by decide +kernel : zi 165 34 = some (.aload_n 0, 1)) rfl ⟨by omega, by omega⟩ ?_
  refine Fr.iconst (by decide +kernel : zi 165 35 = some (.iconst 1, 1)) (by decide) ?_
  refine Fr.callI (y2 := 162) (na := 2) (as := [rf 73, it 1]) (rest := []) (by decide +kernel : zi 165 36 = some (.invokevirtual 231, 3)) rfl (by decide +kernel) (by decide +kernel) rfl rfl (zok_V rfl (by decide) (by decide +kernel) (by decide +kernel) (zrecv_c (c := 72) (by decide) (by decide +kernel)) rfl (Nat.le_of_ble_eq_true rfl)) h (fun r3 s2 h => ?_)
  refine Fr.iconst (by decide +kernel : zi 165 39 = some (.iconst 1, 1)) (by decide) ?_
  refine Fr.bipush (by decide +kernel : zi 165 40 = some (.bipush 99, 2)) (by decide) ?_
  refine Fr.callI (y2 := 133) (na := 3) (as := [it r3, it 1, it 99]) (rest := []) (by decide +kernel : zi 165 42 = some (.invokestatic 234, 3)) rfl (by decide +kernel) (by decide +kernel) rfl rfl (zok_S rfl (by decide) (by decide +kernel) rfl (Nat.le_of_ble_eq_true rfl)) h (fun r5 s4 h => ?_)
  exact Fr.retI (by decide +kernel : zi 165 45 = some (.ireturn, 1)) (by decide +kernel) h
theorem e165 {xs : Nat → Int} {L : Nat} {d : Nat} {v1 : Int} {v2 : Int} {s : Pl} {Q : Option AV → Pl → Prop} (hd : 1 ≤ d) (k : Fr xs L T0 106 (d - 1) 165 0 [some (rf 73), some (it v1), some (it v2)] [] s Q) : Ev xs L T0 106 d 165 [rf 73, it v1, it v2] s Q := Ev.of (by decide) _ rfl hd k
-- 166 X8_gainOf
theorem f166_0 {xs : Nat → Int} {L : Nat} {d : Nat} {v1 : Int} {v2 : Int} {s : Pl} {P : Int → Pl → Prop} (h : Ev xs L T0 106 d 163 [rf 73] s (qv fun s1 => (0 ≤ (0 : Int) ∧ (0 : Int) < 6) ∧ (0 ≤ v1 ∧ v1 < 7) ∧ (0 ≤ (2 : Int) ∧ (2 : Int) < 6) ∧ (0 ≤ v1 ∧ v1 < 7) ∧ (0 ≤ (3 : Int) ∧ (3 : Int) < 6) ∧ (0 ≤ (4 : Int) ∧ (4 : Int) < 6) ∧ (0 ≤ v1 ∧ v1 < 7) ∧ (0 ≤ (5 : Int) ∧ (5 : Int) < 6) ∧ Ev xs L T0 106 d 162 [rf 73, it 2] (zup (zup (zup (zup (zup s1 86 0 v1) 86 2 ((zup s1 86 0 v1) 76 v1)) 86 3 ((zup (zup s1 86 0 v1) 86 2 ((zup s1 86 0 v1) 76 v1)) 78 v1)) 86 4 v2) 86 5 ((zup (zup (zup (zup s1 86 0 v1) 86 2 ((zup s1 86 0 v1) 76 v1)) 86 3 ((zup (zup s1 86 0 v1) 86 2 ((zup s1 86 0 v1) 76 v1)) 78 v1)) 86 4 v2) 77 v1)) (qi fun r3 s2 => Ev xs L T0 106 d 133 [it r3, it 0, it 999] s2 (qi fun r5 s4 => P r5 s4)))) : Fr xs L T0 106 d 166 0 [some (rf 73), some (it v1), some (it v2)] [] s (qi P) := by
  refine Fr.aldn (c := 73) (by decide +kernel : zi 166 0 = some (.aload_n 0, 1)) rfl ⟨by omega, by omega⟩ ?_
  refine Fr.callV (y2 := 163) (na := 1) (as := [rf 73]) (rest := []) (by decide +kernel : zi 166 1 = some (.invokevirtual 228, 3)) rfl (by decide +kernel) (by decide +kernel) rfl rfl (zok_V rfl (by decide) (by decide +kernel) (by decide +kernel) (zrecv_c (c := 72) (by decide) (by decide +kernel)) rfl (Nat.le_of_ble_eq_true rfl)) h (fun s1 h => ?_)
  refine Fr.aldn (c := 73) (by decide +kernel : zi 166 4 = some (.aload_n 0, 1)) rfl ⟨by omega, by omega⟩ ?_
  refine Fr.gR (c := 72) (c2 := 87) (ci := 8) (k := 26) 26 (by decide +kernel : zi 166 5 = some (.getfield 54, 3)) (by decide +kernel) (by decide +kernel) (by decide +kernel) (by decide) rfl (fun q => q (72, 26, 87) (by decide +kernel)) ?_
  refine Fr.iconst (by decide +kernel : zi 166 8 = some (.iconst 0, 1)) (by decide) ?_
  refine Fr.ildn (by decide +kernel : zi 166 9 = some (.iload_n 1, 1)) rfl ?_
  obtain ⟨⟨g0, g1⟩, h⟩ := h
  refine Fr.iast (c := 86) (N := 6) (by decide +kernel : zi 166 10 = some (.iastore, 1)) (by decide +kernel) (by decide) g0 g1 ?_
  refine Fr.aldn (c := 73) (by decide +kernel : zi 166 11 = some (.aload_n 0, 1)) rfl ⟨by omega, by omega⟩ ?_
  refine Fr.gR (c := 72) (c2 := 87) (ci := 8) (k := 26) 26 (by decide +kernel : zi 166 12 = some (.getfield 54, 3)) (by decide +kernel) (by decide +kernel) (by decide +kernel) (by decide) rfl (fun q => q (72, 26, 87) (by decide +kernel)) ?_
  refine Fr.iconst (by decide +kernel : zi 166 15 = some (.iconst 2, 1)) (by decide) ?_
  refine Fr.aldn (c := 73) (by decide +kernel : zi 166 16 = some (.aload_n 0, 1)) rfl ⟨by omega, by omega⟩ ?_
  refine Fr.gR (c := 72) (c2 := 77) (ci := 8) (k := 6) 6 (by decide +kernel : zi 166 17 = some (.getfield 19, 3)) (by decide +kernel) (by decide +kernel) (by decide +kernel) (by decide) rfl (fun q => q (72, 6, 77) (by decide +kernel)) ?_
  refine Fr.ildn (by decide +kernel : zi 166 20 = some (.iload_n 1, 1)) rfl ?_
  obtain ⟨⟨g0, g1⟩, h⟩ := h
  refine Fr.iald (c := 76) (N := 7) (by decide +kernel : zi 166 21 = some (.iaload, 1)) (by decide +kernel) (by decide) g0 g1 ?_
  obtain ⟨⟨g0, g1⟩, h⟩ := h
  refine Fr.iast (c := 86) (N := 6) (by decide +kernel : zi 166 22 = some (.iastore, 1)) (by decide +kernel) (by decide) g0 g1 ?_
  refine Fr.aldn (c := 73) (by decide +kernel : zi 166 23 = some (.aload_n 0, 1)) rfl ⟨by omega, by omega⟩ ?_
  refine Fr.gR (c := 72) (c2 := 87) (ci := 8) (k := 26) 26 (by decide +kernel : zi 166 24 = some (.getfield 54, 3)) (by decide +kernel) (by decide +kernel) (by decide +kernel) (by decide) rfl (fun q => q (72, 26, 87) (by decide +kernel)) ?_
  refine Fr.iconst (by decide +kernel : zi 166 27 = some (.iconst 3, 1)) (by decide) ?_
  refine Fr.aldn (c := 73) (by decide +kernel : zi 166 28 = some (.aload_n 0, 1)) rfl ⟨by omega, by omega⟩ ?_
  refine Fr.gR (c := 72) (c2 := 79) (ci := 8) (k := 8) 8 (by decide +kernel : zi 166 29 = some (.getfield 25, 3)) (by decide +kernel) (by decide +kernel) (by decide +kernel) (by decide) rfl (fun q => q (72, 8, 79) (by decide +kernel)) ?_
  refine Fr.ildn (by decide +kernel : zi 166 32 = some (.iload_n 1, 1)) rfl ?_
  obtain ⟨⟨g0, g1⟩, h⟩ := h
  refine Fr.iald (c := 78) (N := 7) (by decide +kernel : zi 166 33 = some (.iaload, 1)) (by decide +kernel) (by decide) g0 g1 ?_
  obtain ⟨⟨g0, g1⟩, h⟩ := h
  refine Fr.iast (c := 86) (N := 6) (by decide +kernel : zi 166 34 = some (.iastore, 1)) (by decide +kernel) (by decide) g0 g1 ?_
  refine Fr.aldn (c := 73) (by decide +kernel : zi 166 35 = some (.aload_n 0, 1)) rfl ⟨by omega, by omega⟩ ?_
  refine Fr.gR (c := 72) (c2 := 87) (ci := 8) (k := 26) 26 (by decide +kernel : zi 166 36 = some (.getfield 54, 3)) (by decide +kernel) (by decide +kernel) (by decide +kernel) (by decide) rfl (fun q => q (72, 26, 87) (by decide +kernel)) ?_
  refine Fr.iconst (by decide +kernel : zi 166 39 = some (.iconst 4, 1)) (by decide) ?_
  refine Fr.ildn (by decide +kernel : zi 166 40 = some (.iload_n 2, 1)) rfl ?_
  obtain ⟨⟨g0, g1⟩, h⟩ := h
  refine Fr.iast (c := 86) (N := 6) (by decide +kernel : zi 166 41 = some (.iastore, 1)) (by decide +kernel) (by decide) g0 g1 ?_
  refine Fr.aldn (c := 73) (by decide +kernel : zi 166 42 = some (.aload_n 0, 1)) rfl ⟨by omega, by omega⟩ ?_
  refine Fr.gR (c := 72) (c2 := 87) (ci := 8) (k := 26) 26 (by decide +kernel : zi 166 43 = some (.getfield 54, 3)) (by decide +kernel) (by decide +kernel) (by decide +kernel) (by decide) rfl (fun q => q (72, 26, 87) (by decide +kernel)) ?_
  refine Fr.iconst (by decide +kernel : zi 166 46 = some (.iconst 5, 1)) (by decide) ?_
  refine Fr.aldn (c := 73) (by decide +kernel : zi 166 47 = some (.aload_n 0, 1)) rfl ⟨by omega, by omega⟩ ?_
  refine Fr.gR (c := 72) (c2 := 78) (ci := 8) (k := 7) 7 (by decide +kernel : zi 166 48 = some (.getfield 22, 3)) (by decide +kernel) (by decide +kernel) (by decide +kernel) (by decide) rfl (fun q => q (72, 7, 78) (by decide +kernel)) ?_
  refine Fr.ildn (by decide +kernel : zi 166 51 = some (.iload_n 1, 1)) rfl ?_
  obtain ⟨⟨g0, g1⟩, h⟩ := h
  refine Fr.iald (c := 77) (N := 7) (by decide +kernel : zi 166 52 = some (.iaload, 1)) (by decide +kernel) (by decide) g0 g1 ?_
  obtain ⟨⟨g0, g1⟩, h⟩ := h
  refine Fr.iast (c := 86) (N := 6) (by decide +kernel : zi 166 53 = some (.iastore, 1)) (by decide +kernel) (by decide) g0 g1 ?_
  refine Fr.aldn (c := 73) (by decide +kernel : zi 166 54 = some (.aload_n 0, 1)) rfl ⟨by omega, by omega⟩ ?_
  refine Fr.iconst (by decide +kernel : zi 166 55 = some (.iconst 2, 1)) (by decide) ?_
  refine Fr.callI (y2 := 162) (na := 2) (as := [rf 73, it 2]) (rest := []) (by decide +kernel : zi 166 56 = some (.invokevirtual 231, 3)) rfl (by decide +kernel) (by decide +kernel) rfl rfl (zok_V rfl (by decide) (by decide +kernel) (by decide +kernel) (zrecv_c (c := 72) (by decide) (by decide +kernel)) rfl (Nat.le_of_ble_eq_true rfl)) h (fun r3 s2 h => ?_)
  refine Fr.iconst (by decide +kernel : zi 166 59 = some (.iconst 0, 1)) (by decide) ?_
  refine Fr.sipush (by decide +kernel : zi 166 60 = some (.sipush 999, 3)) (by decide) ?_
  refine Fr.callI (y2 := 133) (na := 3) (as := [it r3, it 0, it 999]) (rest := []) (by decide +kernel : zi 166 63 = some (.invokestatic 234, 3)) rfl (by decide +kernel) (by decide +kernel) rfl rfl (zok_S rfl (by decide) (by decide +kernel) rfl (Nat.le_of_ble_eq_true rfl)) h (fun r5 s4 h => ?_)
  exact Fr.retI (by decide +kernel : zi 166 66 = some (.ireturn, 1)) (by decide +kernel) h
theorem e166 {xs : Nat → Int} {L : Nat} {d : Nat} {v1 : Int} {v2 : Int} {s : Pl} {Q : Option AV → Pl → Prop} (hd : 1 ≤ d) (k : Fr xs L T0 106 (d - 1) 166 0 [some (rf 73), some (it v1), some (it v2)] [] s Q) : Ev xs L T0 106 d 166 [rf 73, it v1, it v2] s Q := Ev.of (by decide) _ rfl hd k
-- 167 X8_asks
theorem f167_0 {xs : Nat → Int} {L : Nat} {d : Nat} {v1 : Int} {v2 : Int} {v3 : Int} {v4 : Int} {s : Pl} {P : Int → Pl → Prop} (h : ((v1 < 0 ∨ 2 < v1 → P (-2) s) ∧ (v1 = 0 → Ev xs L T0 106 d 135 [rf 73, it v2] s (qi fun r2 s1 => ((r2 = 0 → P (-2) s1) ∧ (¬ (r2 = 0) → Ev xs L T0 106 d 135 [rf 73, it v3] s1 (qi fun r4 s3 => ((r4 = 0 → P (-2) s3) ∧ (¬ (r4 = 0) → Ev xs L T0 106 d 134 [it v4] s3 (qi fun r6 s5 => ((r6 = 0 → P (-2) s5) ∧ (¬ (r6 = 0) → Ev xs L T0 106 d 164 [rf 73, it v2, it v3, it v4] s5 (qi fun r8 s7 => ((r8 = 0 → P 0 s7) ∧ (¬ (r8 = 0) → P 1 s7))))))))))))) ∧ (v1 = 1 → Ev xs L T0 106 d 134 [it v2] s (qi fun r10 s9 => ((r10 = 0 → P (-2) s9) ∧ (¬ (r10 = 0) → Ev xs L T0 106 d 134 [it v3] s9 (qi fun r12 s11 => ((r12 = 0 → P (-2) s11) ∧ (¬ (r12 = 0) → ((v2 = v3 → P (-2) s11) ∧ (¬ (v2 = v3) → Ev xs L T0 106 d 165 [rf 73, it v2, it v3] s11 (qi fun r14 s13 => P r14 s13)))))))))) ∧ (v1 = 2 → Ev xs L T0 106 d 135 [rf 73, it v2] s (qi fun r16 s15 => ((r16 = 0 → P (-2) s15) ∧ (¬ (r16 = 0) → Ev xs L T0 106 d 132 [it v3, it 0, it 400] s15 (qi fun r18 s17 => ((r18 = 0 → P (-2) s17) ∧ (¬ (r18 = 0) → Ev xs L T0 106 d 166 [rf 73, it v2, it v3] s17 (qi fun r20 s19 => P r20 s19)))))))))) : Fr xs L T0 106 d 167 0 [some (rf 73), some (it v1), some (it v2), some (it v3), some (it v4)] [] s (qi P) := by
  refine Fr.ildn (by decide +kernel : zi 167 0 = some (.iload_n 1, 1)) rfl ?_
  rcases (show (v1 < 0 ∨ 2 < v1) ∨ v1 = 0 ∨ v1 = 1 ∨ v1 = 2 by omega) with g9 | g9 | g9 | g9
  · have h := h.1 g9
    refine Fr.tsd (q := 136) (by decide +kernel : zi 167 1 = some (.tableswitch 135 0 2 #[27, 73, 104], 27)) g9 (by decide +kernel) ?_
    refine Fr.bipush (by decide +kernel : zi 167 136 = some (.bipush (-2), 2)) (by decide) ?_
    exact Fr.retI (by decide +kernel : zi 167 138 = some (.ireturn, 1)) (by decide +kernel) h
  · have h := h.2.1 g9
    refine Fr.tsw (off := 27) (q := 28) (by decide +kernel : zi 167 1 = some (.tableswitch 135 0 2 #[27, 73, 104], 27)) (by omega) (by rw [g9]; decide +kernel) (by decide +kernel) ?_
    refine Fr.aldn (c := 73) (by decide +kernel : zi 167 28 = some (.aload_n 0, 1)) rfl ⟨by omega, by omega⟩ ?_
    refine Fr.ildn (by decide +kernel : zi 167 29 = some (.iload_n 2, 1)) rfl ?_
    refine Fr.callI (y2 := 135) (na := 2) (as := [rf 73, it v2]) (rest := []) (by decide +kernel : zi 167 30 = some (.invokevirtual 237, 3)) rfl (by decide +kernel) (by decide +kernel) rfl rfl (zok_V rfl (by decide) (by decide +kernel) (by decide +kernel) (zrecv_c (c := 72) (by decide) (by decide +kernel)) rfl (Nat.le_of_ble_eq_true rfl)) h (fun r2 s1 h => ?_)
    refine Fr.if0 (q := 71) (by decide +kernel : zi 167 33 = some (.ifCond .eq 38, 3)) (by decide +kernel) (fun g9 => ?_) (fun g9 => ?_)
    · have h := h.1 g9
      refine Fr.bipush (by decide +kernel : zi 167 71 = some (.bipush (-2), 2)) (by decide) ?_
      exact Fr.retI (by decide +kernel : zi 167 73 = some (.ireturn, 1)) (by decide +kernel) h
    · have h := h.2 g9
      refine Fr.aldn (c := 73) (by decide +kernel : zi 167 36 = some (.aload_n 0, 1)) rfl ⟨by omega, by omega⟩ ?_
      refine Fr.ildn (by decide +kernel : zi 167 37 = some (.iload_n 3, 1)) rfl ?_
      refine Fr.callI (y2 := 135) (na := 2) (as := [rf 73, it v3]) (rest := []) (by decide +kernel : zi 167 38 = some (.invokevirtual 237, 3)) rfl (by decide +kernel) (by decide +kernel) rfl rfl (zok_V rfl (by decide) (by decide +kernel) (by decide +kernel) (zrecv_c (c := 72) (by decide) (by decide +kernel)) rfl (Nat.le_of_ble_eq_true rfl)) h (fun r4 s3 h => ?_)
      refine Fr.if0 (q := 71) (by decide +kernel : zi 167 41 = some (.ifCond .eq 30, 3)) (by decide +kernel) (fun g9 => ?_) (fun g9 => ?_)
      · have h := h.1 g9
        refine Fr.bipush (by decide +kernel : zi 167 71 = some (.bipush (-2), 2)) (by decide) ?_
        exact Fr.retI (by decide +kernel : zi 167 73 = some (.ireturn, 1)) (by decide +kernel) h
      · have h := h.2 g9
        refine Fr.ild (by decide +kernel : zi 167 44 = some (.iload 4, 2)) rfl ?_
        refine Fr.callI (y2 := 134) (na := 1) (as := [it v4]) (rest := []) (by decide +kernel : zi 167 46 = some (.invokestatic 125, 3)) rfl (by decide +kernel) (by decide +kernel) rfl rfl (zok_S rfl (by decide) (by decide +kernel) rfl (Nat.le_of_ble_eq_true rfl)) h (fun r6 s5 h => ?_)
        refine Fr.if0 (q := 71) (by decide +kernel : zi 167 49 = some (.ifCond .eq 22, 3)) (by decide +kernel) (fun g9 => ?_) (fun g9 => ?_)
        · have h := h.1 g9
          refine Fr.bipush (by decide +kernel : zi 167 71 = some (.bipush (-2), 2)) (by decide) ?_
          exact Fr.retI (by decide +kernel : zi 167 73 = some (.ireturn, 1)) (by decide +kernel) h
        · have h := h.2 g9
          refine Fr.aldn (c := 73) (by decide +kernel : zi 167 52 = some (.aload_n 0, 1)) rfl ⟨by omega, by omega⟩ ?_
          refine Fr.ildn (by decide +kernel : zi 167 53 = some (.iload_n 2, 1)) rfl ?_
          refine Fr.ildn (by decide +kernel : zi 167 54 = some (.iload_n 3, 1)) rfl ?_
          refine Fr.ild (by decide +kernel : zi 167 55 = some (.iload 4, 2)) rfl ?_
          refine Fr.callI (y2 := 164) (na := 4) (as := [rf 73, it v2, it v3, it v4]) (rest := []) (by decide +kernel : zi 167 57 = some (.invokevirtual 240, 3)) rfl (by decide +kernel) (by decide +kernel) rfl rfl (zok_V rfl (by decide) (by decide +kernel) (by decide +kernel) (zrecv_c (c := 72) (by decide) (by decide +kernel)) rfl (Nat.le_of_ble_eq_true rfl)) h (fun r8 s7 h => ?_)
          refine Fr.if0 (q := 67) (by decide +kernel : zi 167 60 = some (.ifCond .eq 7, 3)) (by decide +kernel) (fun g9 => ?_) (fun g9 => ?_)
          · have h := h.1 g9
            refine Fr.iconst (by decide +kernel : zi 167 67 = some (.iconst 0, 1)) (by decide) ?_
            refine Fr.goto (q := 73) (by decide +kernel : zi 167 68 = some (.goto 5, 3)) (by decide +kernel) ?_
            exact Fr.retI (by decide +kernel : zi 167 73 = some (.ireturn, 1)) (by decide +kernel) h
          · have h := h.2 g9
            refine Fr.iconst (by decide +kernel : zi 167 63 = some (.iconst 1, 1)) (by decide) ?_
            refine Fr.goto (q := 73) (by decide +kernel : zi 167 64 = some (.goto 9, 3)) (by decide +kernel) ?_
            exact Fr.retI (by decide +kernel : zi 167 73 = some (.ireturn, 1)) (by decide +kernel) h
  · have h := h.2.2.1 g9
    refine Fr.tsw (off := 73) (q := 74) (by decide +kernel : zi 167 1 = some (.tableswitch 135 0 2 #[27, 73, 104], 27)) (by omega) (by rw [g9]; decide +kernel) (by decide +kernel) ?_
    refine Fr.ildn (by decide +kernel : zi 167 74 = some (.iload_n 2, 1)) rfl ?_
    refine Fr.callI (y2 := 134) (na := 1) (as := [it v2]) (rest := []) (by decide +kernel : zi 167 75 = some (.invokestatic 125, 3)) rfl (by decide +kernel) (by decide +kernel) rfl rfl (zok_S rfl (by decide) (by decide +kernel) rfl (Nat.le_of_ble_eq_true rfl)) h (fun r10 s9 h => ?_)
    refine Fr.if0 (q := 102) (by decide +kernel : zi 167 78 = some (.ifCond .eq 24, 3)) (by decide +kernel) (fun g9 => ?_) (fun g9 => ?_)
    · have h := h.1 g9
      refine Fr.bipush (by decide +kernel : zi 167 102 = some (.bipush (-2), 2)) (by decide) ?_
      exact Fr.retI (by decide +kernel : zi 167 104 = some (.ireturn, 1)) (by decide +kernel) h
    · have h := h.2 g9
      refine Fr.ildn (by decide +kernel : zi 167 81 = some (.iload_n 3, 1)) rfl ?_
      refine Fr.callI (y2 := 134) (na := 1) (as := [it v3]) (rest := []) (by decide +kernel : zi 167 82 = some (.invokestatic 125, 3)) rfl (by decide +kernel) (by decide +kernel) rfl rfl (zok_S rfl (by decide) (by decide +kernel) rfl (Nat.le_of_ble_eq_true rfl)) h (fun r12 s11 h => ?_)
      refine Fr.if0 (q := 102) (by decide +kernel : zi 167 85 = some (.ifCond .eq 17, 3)) (by decide +kernel) (fun g9 => ?_) (fun g9 => ?_)
      · have h := h.1 g9
        refine Fr.bipush (by decide +kernel : zi 167 102 = some (.bipush (-2), 2)) (by decide) ?_
        exact Fr.retI (by decide +kernel : zi 167 104 = some (.ireturn, 1)) (by decide +kernel) h
      · have h := h.2 g9
        refine Fr.ildn (by decide +kernel : zi 167 88 = some (.iload_n 2, 1)) rfl ?_
        refine Fr.ildn (by decide +kernel : zi 167 89 = some (.iload_n 3, 1)) rfl ?_
        refine Fr.if2 (q := 102) (by decide +kernel : zi 167 90 = some (.if_icmp .eq 12, 3)) (by decide +kernel) (fun g9 => ?_) (fun g9 => ?_)
        · have h := h.1 g9
          refine Fr.bipush (by decide +kernel : zi 167 102 = some (.bipush (-2), 2)) (by decide) ?_
          exact Fr.retI (by decide +kernel : zi 167 104 = some (.ireturn, 1)) (by decide +kernel) h
        · have h := h.2 g9
          refine Fr.aldn (c := 73) (by decide +kernel : zi 167 93 = some (.aload_n 0, 1)) rfl ⟨by omega, by omega⟩ ?_
          refine Fr.ildn (by decide +kernel : zi 167 94 = some (.iload_n 2, 1)) rfl ?_
          refine Fr.ildn (by decide +kernel : zi 167 95 = some (.iload_n 3, 1)) rfl ?_
          refine Fr.callI (y2 := 165) (na := 3) (as := [rf 73, it v2, it v3]) (rest := []) (by decide +kernel : zi 167 96 = some (.invokevirtual 243, 3)) rfl (by decide +kernel) (by decide +kernel) rfl rfl (zok_V rfl (by decide) (by decide +kernel) (by decide +kernel) (zrecv_c (c := 72) (by decide) (by decide +kernel)) rfl (Nat.le_of_ble_eq_true rfl)) h (fun r14 s13 h => ?_)
          refine Fr.goto (q := 104) (by decide +kernel : zi 167 99 = some (.goto 5, 3)) (by decide +kernel) ?_
          exact Fr.retI (by decide +kernel : zi 167 104 = some (.ireturn, 1)) (by decide +kernel) h
  · have h := h.2.2.2 g9
    refine Fr.tsw (off := 104) (q := 105) (by decide +kernel : zi 167 1 = some (.tableswitch 135 0 2 #[27, 73, 104], 27)) (by omega) (by rw [g9]; decide +kernel) (by decide +kernel) ?_
    refine Fr.aldn (c := 73) (by decide +kernel : zi 167 105 = some (.aload_n 0, 1)) rfl ⟨by omega, by omega⟩ ?_
    refine Fr.ildn (by decide +kernel : zi 167 106 = some (.iload_n 2, 1)) rfl ?_
    refine Fr.callI (y2 := 135) (na := 2) (as := [rf 73, it v2]) (rest := []) (by decide +kernel : zi 167 107 = some (.invokevirtual 237, 3)) rfl (by decide +kernel) (by decide +kernel) rfl rfl (zok_V rfl (by decide) (by decide +kernel) (by decide +kernel) (zrecv_c (c := 72) (by decide) (by decide +kernel)) rfl (Nat.le_of_ble_eq_true rfl)) h (fun r16 s15 h => ?_)
    refine Fr.if0 (q := 133) (by decide +kernel : zi 167 110 = some (.ifCond .eq 23, 3)) (by decide +kernel) (fun g9 => ?_) (fun g9 => ?_)
    · have h := h.1 g9
      refine Fr.bipush (by decide +kernel : zi 167 133 = some (.bipush (-2), 2)) (by decide) ?_
      exact Fr.retI (by decide +kernel : zi 167 135 = some (.ireturn, 1)) (by decide +kernel) h
    · have h := h.2 g9
      refine Fr.ildn (by decide +kernel : zi 167 113 = some (.iload_n 3, 1)) rfl ?_
      refine Fr.iconst (by decide +kernel : zi 167 114 = some (.iconst 0, 1)) (by decide) ?_
      refine Fr.sipush (by decide +kernel : zi 167 115 = some (.sipush 400, 3)) (by decide) ?_
      refine Fr.callI (y2 := 132) (na := 3) (as := [it v3, it 0, it 400]) (rest := []) (by decide +kernel : zi 167 118 = some (.invokestatic 118, 3)) rfl (by decide +kernel) (by decide +kernel) rfl rfl (zok_S rfl (by decide) (by decide +kernel) rfl (Nat.le_of_ble_eq_true rfl)) h (fun r18 s17 h => ?_)
      refine Fr.if0 (q := 133) (by decide +kernel : zi 167 121 = some (.ifCond .eq 12, 3)) (by decide +kernel) (fun g9 => ?_) (fun g9 => ?_)
      · have h := h.1 g9
        refine Fr.bipush (by decide +kernel : zi 167 133 = some (.bipush (-2), 2)) (by decide) ?_
        exact Fr.retI (by decide +kernel : zi 167 135 = some (.ireturn, 1)) (by decide +kernel) h
      · have h := h.2 g9
        refine Fr.aldn (c := 73) (by decide +kernel : zi 167 124 = some (.aload_n 0, 1)) rfl ⟨by omega, by omega⟩ ?_
        refine Fr.ildn (by decide +kernel : zi 167 125 = some (.iload_n 2, 1)) rfl ?_
        refine Fr.ildn (by decide +kernel : zi 167 126 = some (.iload_n 3, 1)) rfl ?_
        refine Fr.callI (y2 := 166) (na := 3) (as := [rf 73, it v2, it v3]) (rest := []) (by decide +kernel : zi 167 127 = some (.invokevirtual 247, 3)) rfl (by decide +kernel) (by decide +kernel) rfl rfl (zok_V rfl (by decide) (by decide +kernel) (by decide +kernel) (zrecv_c (c := 72) (by decide) (by decide +kernel)) rfl (Nat.le_of_ble_eq_true rfl)) h (fun r20 s19 h => ?_)
        refine Fr.goto (q := 135) (by decide +kernel : zi 167 130 = some (.goto 5, 3)) (by decide +kernel) ?_
        exact Fr.retI (by decide +kernel : zi 167 135 = some (.ireturn, 1)) (by decide +kernel) h
theorem e167 {xs : Nat → Int} {L : Nat} {d : Nat} {v1 : Int} {v2 : Int} {v3 : Int} {v4 : Int} {s : Pl} {Q : Option AV → Pl → Prop} (hd : 1 ≤ d) (k : Fr xs L T0 106 (d - 1) 167 0 [some (rf 73), some (it v1), some (it v2), some (it v3), some (it v4)] [] s Q) : Ev xs L T0 106 d 167 [rf 73, it v1, it v2, it v3, it v4] s Q := Ev.of (by decide) _ rfl hd k
-- 168 X8_person
theorem f168_0 {xs : Nat → Int} {L : Nat} {d : Nat} {v1 : Int} {v2 : Int} {v3 : Int} {v4 : Int} {s : Pl} {P : Int → Pl → Prop} (h : Ev xs L T0 106 d 132 [it v1, it 0, it 5] s (qi fun r2 s1 => ((r2 = 0 → P (-2) s1) ∧ (¬ (r2 = 0) → ((v2 < 0 → P (-2) s1) ∧ (¬ (v2 < 0) → Ev xs L T0 106 d 132 [it (zdiv v2 10), it 0, it 4] s1 (qi fun r4 s3 => ((r4 = 0 → P (-2) s3) ∧ (¬ (r4 = 0) → Ev xs L T0 106 d 134 [it (zrem v2 10)] s3 (qi fun r6 s5 => ((r6 = 0 → P (-2) s5) ∧ (¬ (r6 = 0) → Ev xs L T0 106 d 132 [it v3, it 0, it 9999] s5 (qi fun r8 s7 => ((r8 = 0 → P (-2) s7) ∧ (¬ (r8 = 0) → Ev xs L T0 106 d 132 [it v4, it 0, it 5] s7 (qi fun r10 s9 => ((¬ r10 = 0 → ((¬ s9 72 3 = 6 → ((¬ zdiv v2 10 = 4 → Fr xs L T0 106 d 168 91 [some (rf 73), some (it v1), some (it v2), some (it v3), some (it v4)] [] s9 (qi P)) ∧ (¬ (¬ zdiv v2 10 = 4) → Ev xs L T0 106 d 138 [rf 73, it 4] s9 (qi fun r12 s11 => ((¬ r12 = 3 → Fr xs L T0 106 d 168 91 [some (rf 73), some (it v1), some (it v2), some (it v3), some (it v4)] [] s11 (qi P)) ∧ (¬ (¬ r12 = 3) → P (-3) s11)))))) ∧ (¬ (¬ s9 72 3 = 6) → P (-4) s9))) ∧ (¬ (¬ r10 = 0) → P (-2) s9)))))))))))))))))) : Fr xs L T0 106 d 168 0 [some (rf 73), some (it v1), some (it v2), some (it v3), some (it v4)] [] s (qi P) := by
  refine Fr.ildn (by decide +kernel : zi 168 0 = some (.iload_n 1, 1)) rfl ?_
  refine Fr.iconst (by decide +kernel : zi 168 1 = some (.iconst 0, 1)) (by decide) ?_
  refine Fr.iconst (by decide +kernel : zi 168 2 = some (.iconst 5, 1)) (by decide) ?_
  refine Fr.callI (y2 := 132) (na := 3) (as := [it v1, it 0, it 5]) (rest := []) (by decide +kernel : zi 168 3 = some (.invokestatic 118, 3)) rfl (by decide +kernel) (by decide +kernel) rfl rfl (zok_S rfl (by decide) (by decide +kernel) rfl (Nat.le_of_ble_eq_true rfl)) h (fun r2 s1 h => ?_)
  refine Fr.if0 (q := 56) (by decide +kernel : zi 168 6 = some (.ifCond .eq 50, 3)) (by decide +kernel) (fun g9 => ?_) (fun g9 => ?_)
  · have h := h.1 g9
    refine Fr.bipush (by decide +kernel : zi 168 56 = some (.bipush (-2), 2)) (by decide) ?_
    exact Fr.retI (by decide +kernel : zi 168 58 = some (.ireturn, 1)) (by decide +kernel) h
  · have h := h.2 g9
    refine Fr.ildn (by decide +kernel : zi 168 9 = some (.iload_n 2, 1)) rfl ?_
    refine Fr.if0 (q := 56) (by decide +kernel : zi 168 10 = some (.ifCond .lt 46, 3)) (by decide +kernel) (fun g9 => ?_) (fun g9 => ?_)
    · have h := h.1 g9
      refine Fr.bipush (by decide +kernel : zi 168 56 = some (.bipush (-2), 2)) (by decide) ?_
      exact Fr.retI (by decide +kernel : zi 168 58 = some (.ireturn, 1)) (by decide +kernel) h
    · have h := h.2 g9
      refine Fr.ildn (by decide +kernel : zi 168 13 = some (.iload_n 2, 1)) rfl ?_
      refine Fr.bipush (by decide +kernel : zi 168 14 = some (.bipush 10, 2)) (by decide) ?_
      refine Fr.idiv (by decide +kernel : zi 168 16 = some (.idiv, 1)) (by decide) ?_
      refine Fr.iconst (by decide +kernel : zi 168 17 = some (.iconst 0, 1)) (by decide) ?_
      refine Fr.iconst (by decide +kernel : zi 168 18 = some (.iconst 4, 1)) (by decide) ?_
      refine Fr.callI (y2 := 132) (na := 3) (as := [it (zdiv v2 10), it 0, it 4]) (rest := []) (by decide +kernel : zi 168 19 = some (.invokestatic 118, 3)) rfl (by decide +kernel) (by decide +kernel) rfl rfl (zok_S rfl (by decide) (by decide +kernel) rfl (Nat.le_of_ble_eq_true rfl)) h (fun r4 s3 h => ?_)
      refine Fr.if0 (q := 56) (by decide +kernel : zi 168 22 = some (.ifCond .eq 34, 3)) (by decide +kernel) (fun g9 => ?_) (fun g9 => ?_)
      · have h := h.1 g9
        refine Fr.bipush (by decide +kernel : zi 168 56 = some (.bipush (-2), 2)) (by decide) ?_
        exact Fr.retI (by decide +kernel : zi 168 58 = some (.ireturn, 1)) (by decide +kernel) h
      · have h := h.2 g9
        refine Fr.ildn (by decide +kernel : zi 168 25 = some (.iload_n 2, 1)) rfl ?_
        refine Fr.bipush (by decide +kernel : zi 168 26 = some (.bipush 10, 2)) (by decide) ?_
        refine Fr.irem (by decide +kernel : zi 168 28 = some (.irem, 1)) (by decide) ?_
        refine Fr.callI (y2 := 134) (na := 1) (as := [it (zrem v2 10)]) (rest := []) (by decide +kernel : zi 168 29 = some (.invokestatic 125, 3)) rfl (by decide +kernel) (by decide +kernel) rfl rfl (zok_S rfl (by decide) (by decide +kernel) rfl (Nat.le_of_ble_eq_true rfl)) h (fun r6 s5 h => ?_)
        refine Fr.if0 (q := 56) (by decide +kernel : zi 168 32 = some (.ifCond .eq 24, 3)) (by decide +kernel) (fun g9 => ?_) (fun g9 => ?_)
        · have h := h.1 g9
          refine Fr.bipush (by decide +kernel : zi 168 56 = some (.bipush (-2), 2)) (by decide) ?_
          exact Fr.retI (by decide +kernel : zi 168 58 = some (.ireturn, 1)) (by decide +kernel) h
        · have h := h.2 g9
          refine Fr.ildn (by decide +kernel : zi 168 35 = some (.iload_n 3, 1)) rfl ?_
          refine Fr.iconst (by decide +kernel : zi 168 36 = some (.iconst 0, 1)) (by decide) ?_
          refine Fr.sipush (by decide +kernel : zi 168 37 = some (.sipush 9999, 3)) (by decide) ?_
          refine Fr.callI (y2 := 132) (na := 3) (as := [it v3, it 0, it 9999]) (rest := []) (by decide +kernel : zi 168 40 = some (.invokestatic 118, 3)) rfl (by decide +kernel) (by decide +kernel) rfl rfl (zok_S rfl (by decide) (by decide +kernel) rfl (Nat.le_of_ble_eq_true rfl)) h (fun r8 s7 h => ?_)
          refine Fr.if0 (q := 56) (by decide +kernel : zi 168 43 = some (.ifCond .eq 13, 3)) (by decide +kernel) (fun g9 => ?_) (fun g9 => ?_)
          · have h := h.1 g9
            refine Fr.bipush (by decide +kernel : zi 168 56 = some (.bipush (-2), 2)) (by decide) ?_
            exact Fr.retI (by decide +kernel : zi 168 58 = some (.ireturn, 1)) (by decide +kernel) h
          · have h := h.2 g9
            refine Fr.ild (by decide +kernel : zi 168 46 = some (.iload 4, 2)) rfl ?_
            refine Fr.iconst (by decide +kernel : zi 168 48 = some (.iconst 0, 1)) (by decide) ?_
            refine Fr.iconst (by decide +kernel : zi 168 49 = some (.iconst 5, 1)) (by decide) ?_
            refine Fr.callI (y2 := 132) (na := 3) (as := [it v4, it 0, it 5]) (rest := []) (by decide +kernel : zi 168 50 = some (.invokestatic 118, 3)) rfl (by decide +kernel) (by decide +kernel) rfl rfl (zok_S rfl (by decide) (by decide +kernel) rfl (Nat.le_of_ble_eq_true rfl)) h (fun r10 s9 h => ?_)
            refine Fr.if0 (q := 59) (by decide +kernel : zi 168 53 = some (.ifCond .ne 6, 3)) (by decide +kernel) (fun g9 => ?_) (fun g9 => ?_)
            · have h := h.1 g9
              refine Fr.aldn (c := 73) (by decide +kernel : zi 168 59 = some (.aload_n 0, 1)) rfl ⟨by omega, by omega⟩ ?_
              refine Fr.gI (c := 72) (ci := 8) (k := 3) (t := 0) 3 (by decide +kernel : zi 168 60 = some (.getfield 122, 3)) (by decide +kernel) (by decide +kernel) (by decide +kernel) (by decide) rfl ?_
              refine Fr.bipush (by decide +kernel : zi 168 63 = some (.bipush 6, 2)) (by decide) ?_
              refine Fr.if2 (q := 71) (by decide +kernel : zi 168 65 = some (.if_icmp .ne 6, 3)) (by decide +kernel) (fun g9 => ?_) (fun g9 => ?_)
              · have h := h.1 g9
                refine Fr.ildn (by decide +kernel : zi 168 71 = some (.iload_n 2, 1)) rfl ?_
                refine Fr.bipush (by decide +kernel : zi 168 72 = some (.bipush 10, 2)) (by decide) ?_
                refine Fr.idiv (by decide +kernel : zi 168 74 = some (.idiv, 1)) (by decide) ?_
                refine Fr.iconst (by decide +kernel : zi 168 75 = some (.iconst 4, 1)) (by decide) ?_
                refine Fr.if2 (q := 91) (by decide +kernel : zi 168 76 = some (.if_icmp .ne 15, 3)) (by decide +kernel) (fun g9 => ?_) (fun g9 => ?_)
                · have h := h.1 g9
                  exact h
                · have h := h.2 g9
                  refine Fr.aldn (c := 73) (by decide +kernel : zi 168 79 = some (.aload_n 0, 1)) rfl ⟨by omega, by omega⟩ ?_
                  refine Fr.iconst (by decide +kernel : zi 168 80 = some (.iconst 4, 1)) (by decide) ?_
                  refine Fr.callI (y2 := 138) (na := 2) (as := [rf 73, it 4]) (rest := []) (by decide +kernel : zi 168 81 = some (.invokevirtual 132, 3)) rfl (by decide +kernel) (by decide +kernel) rfl rfl (zok_V rfl (by decide) (by decide +kernel) (by decide +kernel) (zrecv_c (c := 72) (by decide) (by decide +kernel)) rfl (Nat.le_of_ble_eq_true rfl)) h (fun r12 s11 h => ?_)
                  refine Fr.iconst (by decide +kernel : zi 168 84 = some (.iconst 3, 1)) (by decide) ?_
                  refine Fr.if2 (q := 91) (by decide +kernel : zi 168 85 = some (.if_icmp .ne 6, 3)) (by decide +kernel) (fun g9 => ?_) (fun g9 => ?_)
                  · have h := h.1 g9
                    exact h
                  · have h := h.2 g9
                    refine Fr.bipush (by decide +kernel : zi 168 88 = some (.bipush (-3), 2)) (by decide) ?_
                    exact Fr.retI (by decide +kernel : zi 168 90 = some (.ireturn, 1)) (by decide +kernel) h
              · have h := h.2 g9
                refine Fr.bipush (by decide +kernel : zi 168 68 = some (.bipush (-4), 2)) (by decide) ?_
                exact Fr.retI (by decide +kernel : zi 168 70 = some (.ireturn, 1)) (by decide +kernel) h
            · have h := h.2 g9
              refine Fr.bipush (by decide +kernel : zi 168 56 = some (.bipush (-2), 2)) (by decide) ?_
              exact Fr.retI (by decide +kernel : zi 168 58 = some (.ireturn, 1)) (by decide +kernel) h
theorem e168 {xs : Nat → Int} {L : Nat} {d : Nat} {v1 : Int} {v2 : Int} {v3 : Int} {v4 : Int} {s : Pl} {Q : Option AV → Pl → Prop} (hd : 1 ≤ d) (k : Fr xs L T0 106 (d - 1) 168 0 [some (rf 73), some (it v1), some (it v2), some (it v3), some (it v4)] [] s Q) : Ev xs L T0 106 d 168 [rf 73, it v1, it v2, it v3, it v4] s Q := Ev.of (by decide) _ rfl hd k
theorem f168_91 {xs : Nat → Int} {L : Nat} {d : Nat} {v1 : Int} {v2 : Int} {v3 : Int} {v4 : Int} {s : Pl} {P : Int → Pl → Prop} (h : (0 ≤ s 72 3 ∧ s 72 3 < 7) ∧ (0 ≤ (zup s 74 (s 72 3) v1) 72 3 ∧ (zup s 74 (s 72 3) v1) 72 3 < 7) ∧ (0 ≤ (zup (zup s 74 (s 72 3) v1) 75 ((zup s 74 (s 72 3) v1) 72 3) (zdiv v2 10)) 72 3 ∧ (zup (zup s 74 (s 72 3) v1) 75 ((zup s 74 (s 72 3) v1) 72 3) (zdiv v2 10)) 72 3 < 7) ∧ (0 ≤ (zup (zup (zup s 74 (s 72 3) v1) 75 ((zup s 74 (s 72 3) v1) 72 3) (zdiv v2 10)) 76 ((zup (zup s 74 (s 72 3) v1) 75 ((zup s 74 (s 72 3) v1) 72 3) (zdiv v2 10)) 72 3) (zrem v2 10)) 72 3 ∧ (zup (zup (zup s 74 (s 72 3) v1) 75 ((zup s 74 (s 72 3) v1) 72 3) (zdiv v2 10)) 76 ((zup (zup s 74 (s 72 3) v1) 75 ((zup s 74 (s 72 3) v1) 72 3) (zdiv v2 10)) 72 3) (zrem v2 10)) 72 3 < 7) ∧ (0 ≤ (zup (zup (zup (zup s 74 (s 72 3) v1) 75 ((zup s 74 (s 72 3) v1) 72 3) (zdiv v2 10)) 76 ((zup (zup s 74 (s 72 3) v1) 75 ((zup s 74 (s 72 3) v1) 72 3) (zdiv v2 10)) 72 3) (zrem v2 10)) 77 ((zup (zup (zup s 74 (s 72 3) v1) 75 ((zup s 74 (s 72 3) v1) 72 3) (zdiv v2 10)) 76 ((zup (zup s 74 (s 72 3) v1) 75 ((zup s 74 (s 72 3) v1) 72 3) (zdiv v2 10)) 72 3) (zrem v2 10)) 72 3) (zdiv v3 100)) 72 3 ∧ (zup (zup (zup (zup s 74 (s 72 3) v1) 75 ((zup s 74 (s 72 3) v1) 72 3) (zdiv v2 10)) 76 ((zup (zup s 74 (s 72 3) v1) 75 ((zup s 74 (s 72 3) v1) 72 3) (zdiv v2 10)) 72 3) (zrem v2 10)) 77 ((zup (zup (zup s 74 (s 72 3) v1) 75 ((zup s 74 (s 72 3) v1) 72 3) (zdiv v2 10)) 76 ((zup (zup s 74 (s 72 3) v1) 75 ((zup s 74 (s 72 3) v1) 72 3) (zdiv v2 10)) 72 3) (zrem v2 10)) 72 3) (zdiv v3 100)) 72 3 < 7) ∧ (0 ≤ (zup (zup (zup (zup (zup s 74 (s 72 3) v1) 75 ((zup s 74 (s 72 3) v1) 72 3) (zdiv v2 10)) 76 ((zup (zup s 74 (s 72 3) v1) 75 ((zup s 74 (s 72 3) v1) 72 3) (zdiv v2 10)) 72 3) (zrem v2 10)) 77 ((zup (zup (zup s 74 (s 72 3) v1) 75 ((zup s 74 (s 72 3) v1) 72 3) (zdiv v2 10)) 76 ((zup (zup s 74 (s 72 3) v1) 75 ((zup s 74 (s 72 3) v1) 72 3) (zdiv v2 10)) 72 3) (zrem v2 10)) 72 3) (zdiv v3 100)) 78 ((zup (zup (zup (zup s 74 (s 72 3) v1) 75 ((zup s 74 (s 72 3) v1) 72 3) (zdiv v2 10)) 76 ((zup (zup s 74 (s 72 3) v1) 75 ((zup s 74 (s 72 3) v1) 72 3) (zdiv v2 10)) 72 3) (zrem v2 10)) 77 ((zup (zup (zup s 74 (s 72 3) v1) 75 ((zup s 74 (s 72 3) v1) 72 3) (zdiv v2 10)) 76 ((zup (zup s 74 (s 72 3) v1) 75 ((zup s 74 (s 72 3) v1) 72 3) (zdiv v2 10)) 72 3) (zrem v2 10)) 72 3) (zdiv v3 100)) 72 3) (zrem v3 100)) 72 3 ∧ (zup (zup (zup (zup (zup s 74 (s 72 3) v1) 75 ((zup s 74 (s 72 3) v1) 72 3) (zdiv v2 10)) 76 ((zup (zup s 74 (s 72 3) v1) 75 ((zup s 74 (s 72 3) v1) 72 3) (zdiv v2 10)) 72 3) (zrem v2 10)) 77 ((zup (zup (zup s 74 (s 72 3) v1) 75 ((zup s 74 (s 72 3) v1) 72 3) (zdiv v2 10)) 76 ((zup (zup s 74 (s 72 3) v1) 75 ((zup s 74 (s 72 3) v1) 72 3) (zdiv v2 10)) 72 3) (zrem v2 10)) 72 3) (zdiv v3 100)) 78 ((zup (zup (zup (zup s 74 (s 72 3) v1) 75 ((zup s 74 (s 72 3) v1) 72 3) (zdiv v2 10)) 76 ((zup (zup s 74 (s 72 3) v1) 75 ((zup s 74 (s 72 3) v1) 72 3) (zdiv v2 10)) 72 3) (zrem v2 10)) 77 ((zup (zup (zup s 74 (s 72 3) v1) 75 ((zup s 74 (s 72 3) v1) 72 3) (zdiv v2 10)) 76 ((zup (zup s 74 (s 72 3) v1) 75 ((zup s 74 (s 72 3) v1) 72 3) (zdiv v2 10)) 72 3) (zrem v2 10)) 72 3) (zdiv v3 100)) 72 3) (zrem v3 100)) 72 3 < 7) ∧ (0 ≤ (zup (zup (zup (zup (zup (zup s 74 (s 72 3) v1) 75 ((zup s 74 (s 72 3) v1) 72 3) (zdiv v2 10)) 76 ((zup (zup s 74 (s 72 3) v1) 75 ((zup s 74 (s 72 3) v1) 72 3) (zdiv v2 10)) 72 3) (zrem v2 10)) 77 ((zup (zup (zup s 74 (s 72 3) v1) 75 ((zup s 74 (s 72 3) v1) 72 3) (zdiv v2 10)) 76 ((zup (zup s 74 (s 72 3) v1) 75 ((zup s 74 (s 72 3) v1) 72 3) (zdiv v2 10)) 72 3) (zrem v2 10)) 72 3) (zdiv v3 100)) 78 ((zup (zup (zup (zup s 74 (s 72 3) v1) 75 ((zup s 74 (s 72 3) v1) 72 3) (zdiv v2 10)) 76 ((zup (zup s 74 (s 72 3) v1) 75 ((zup s 74 (s 72 3) v1) 72 3) (zdiv v2 10)) 72 3) (zrem v2 10)) 77 ((zup (zup (zup s 74 (s 72 3) v1) 75 ((zup s 74 (s 72 3) v1) 72 3) (zdiv v2 10)) 76 ((zup (zup s 74 (s 72 3) v1) 75 ((zup s 74 (s 72 3) v1) 72 3) (zdiv v2 10)) 72 3) (zrem v2 10)) 72 3) (zdiv v3 100)) 72 3) (zrem v3 100)) 79 ((zup (zup (zup (zup (zup s 74 (s 72 3) v1) 75 ((zup s 74 (s 72 3) v1) 72 3) (zdiv v2 10)) 76 ((zup (zup s 74 (s 72 3) v1) 75 ((zup s 74 (s 72 3) v1) 72 3) (zdiv v2 10)) 72 3) (zrem v2 10)) 77 ((zup (zup (zup s 74 (s 72 3) v1) 75 ((zup s 74 (s 72 3) v1) 72 3) (zdiv v2 10)) 76 ((zup (zup s 74 (s 72 3) v1) 75 ((zup s 74 (s 72 3) v1) 72 3) (zdiv v2 10)) 72 3) (zrem v2 10)) 72 3) (zdiv v3 100)) 78 ((zup (zup (zup (zup s 74 (s 72 3) v1) 75 ((zup s 74 (s 72 3) v1) 72 3) (zdiv v2 10)) 76 ((zup (zup s 74 (s 72 3) v1) 75 ((zup s 74 (s 72 3) v1) 72 3) (zdiv v2 10)) 72 3) (zrem v2 10)) 77 ((zup (zup (zup s 74 (s 72 3) v1) 75 ((zup s 74 (s 72 3) v1) 72 3) (zdiv v2 10)) 76 ((zup (zup s 74 (s 72 3) v1) 75 ((zup s 74 (s 72 3) v1) 72 3) (zdiv v2 10)) 72 3) (zrem v2 10)) 72 3) (zdiv v3 100)) 72 3) (zrem v3 100)) 72 3) v4) 72 3 ∧ (zup (zup (zup (zup (zup (zup s 74 (s 72 3) v1) 75 ((zup s 74 (s 72 3) v1) 72 3) (zdiv v2 10)) 76 ((zup (zup s 74 (s 72 3) v1) 75 ((zup s 74 (s 72 3) v1) 72 3) (zdiv v2 10)) 72 3) (zrem v2 10)) 77 ((zup (zup (zup s 74 (s 72 3) v1) 75 ((zup s 74 (s 72 3) v1) 72 3) (zdiv v2 10)) 76 ((zup (zup s 74 (s 72 3) v1) 75 ((zup s 74 (s 72 3) v1) 72 3) (zdiv v2 10)) 72 3) (zrem v2 10)) 72 3) (zdiv v3 100)) 78 ((zup (zup (zup (zup s 74 (s 72 3) v1) 75 ((zup s 74 (s 72 3) v1) 72 3) (zdiv v2 10)) 76 ((zup (zup s 74 (s 72 3) v1) 75 ((zup s 74 (s 72 3) v1) 72 3) (zdiv v2 10)) 72 3) (zrem v2 10)) 77 ((zup (zup (zup s 74 (s 72 3) v1) 75 ((zup s 74 (s 72 3) v1) 72 3) (zdiv v2 10)) 76 ((zup (zup s 74 (s 72 3) v1) 75 ((zup s 74 (s 72 3) v1) 72 3) (zdiv v2 10)) 72 3) (zrem v2 10)) 72 3) (zdiv v3 100)) 72 3) (zrem v3 100)) 79 ((zup (zup (zup (zup (zup s 74 (s 72 3) v1) 75 ((zup s 74 (s 72 3) v1) 72 3) (zdiv v2 10)) 76 ((zup (zup s 74 (s 72 3) v1) 75 ((zup s 74 (s 72 3) v1) 72 3) (zdiv v2 10)) 72 3) (zrem v2 10)) 77 ((zup (zup (zup s 74 (s 72 3) v1) 75 ((zup s 74 (s 72 3) v1) 72 3) (zdiv v2 10)) 76 ((zup (zup s 74 (s 72 3) v1) 75 ((zup s 74 (s 72 3) v1) 72 3) (zdiv v2 10)) 72 3) (zrem v2 10)) 72 3) (zdiv v3 100)) 78 ((zup (zup (zup (zup s 74 (s 72 3) v1) 75 ((zup s 74 (s 72 3) v1) 72 3) (zdiv v2 10)) 76 ((zup (zup s 74 (s 72 3) v1) 75 ((zup s 74 (s 72 3) v1) 72 3) (zdiv v2 10)) 72 3) (zrem v2 10)) 77 ((zup (zup (zup s 74 (s 72 3) v1) 75 ((zup s 74 (s 72 3) v1) 72 3) (zdiv v2 10)) 76 ((zup (zup s 74 (s 72 3) v1) 75 ((zup s 74 (s 72 3) v1) 72 3) (zdiv v2 10)) 72 3) (zrem v2 10)) 72 3) (zdiv v3 100)) 72 3) (zrem v3 100)) 72 3) v4) 72 3 < 7) ∧ P (zw (((zup (zup (zup (zup (zup (zup (zup (zup s 74 (s 72 3) v1) 75 ((zup s 74 (s 72 3) v1) 72 3) (zdiv v2 10)) 76 ((zup (zup s 74 (s 72 3) v1) 75 ((zup s 74 (s 72 3) v1) 72 3) (zdiv v2 10)) 72 3) (zrem v2 10)) 77 ((zup (zup (zup s 74 (s 72 3) v1) 75 ((zup s 74 (s 72 3) v1) 72 3) (zdiv v2 10)) 76 ((zup (zup s 74 (s 72 3) v1) 75 ((zup s 74 (s 72 3) v1) 72 3) (zdiv v2 10)) 72 3) (zrem v2 10)) 72 3) (zdiv v3 100)) 78 ((zup (zup (zup (zup s 74 (s 72 3) v1) 75 ((zup s 74 (s 72 3) v1) 72 3) (zdiv v2 10)) 76 ((zup (zup s 74 (s 72 3) v1) 75 ((zup s 74 (s 72 3) v1) 72 3) (zdiv v2 10)) 72 3) (zrem v2 10)) 77 ((zup (zup (zup s 74 (s 72 3) v1) 75 ((zup s 74 (s 72 3) v1) 72 3) (zdiv v2 10)) 76 ((zup (zup s 74 (s 72 3) v1) 75 ((zup s 74 (s 72 3) v1) 72 3) (zdiv v2 10)) 72 3) (zrem v2 10)) 72 3) (zdiv v3 100)) 72 3) (zrem v3 100)) 79 ((zup (zup (zup (zup (zup s 74 (s 72 3) v1) 75 ((zup s 74 (s 72 3) v1) 72 3) (zdiv v2 10)) 76 ((zup (zup s 74 (s 72 3) v1) 75 ((zup s 74 (s 72 3) v1) 72 3) (zdiv v2 10)) 72 3) (zrem v2 10)) 77 ((zup (zup (zup s 74 (s 72 3) v1) 75 ((zup s 74 (s 72 3) v1) 72 3) (zdiv v2 10)) 76 ((zup (zup s 74 (s 72 3) v1) 75 ((zup s 74 (s 72 3) v1) 72 3) (zdiv v2 10)) 72 3) (zrem v2 10)) 72 3) (zdiv v3 100)) 78 ((zup (zup (zup (zup s 74 (s 72 3) v1) 75 ((zup s 74 (s 72 3) v1) 72 3) (zdiv v2 10)) 76 ((zup (zup s 74 (s 72 3) v1) 75 ((zup s 74 (s 72 3) v1) 72 3) (zdiv v2 10)) 72 3) (zrem v2 10)) 77 ((zup (zup (zup s 74 (s 72 3) v1) 75 ((zup s 74 (s 72 3) v1) 72 3) (zdiv v2 10)) 76 ((zup (zup s 74 (s 72 3) v1) 75 ((zup s 74 (s 72 3) v1) 72 3) (zdiv v2 10)) 72 3) (zrem v2 10)) 72 3) (zdiv v3 100)) 72 3) (zrem v3 100)) 72 3) v4) 80 ((zup (zup (zup (zup (zup (zup s 74 (s 72 3) v1) 75 ((zup s 74 (s 72 3) v1) 72 3) (zdiv v2 10)) 76 ((zup (zup s 74 (s 72 3) v1) 75 ((zup s 74 (s 72 3) v1) 72 3) (zdiv v2 10)) 72 3) (zrem v2 10)) 77 ((zup (zup (zup s 74 (s 72 3) v1) 75 ((zup s 74 (s 72 3) v1) 72 3) (zdiv v2 10)) 76 ((zup (zup s 74 (s 72 3) v1) 75 ((zup s 74 (s 72 3) v1) 72 3) (zdiv v2 10)) 72 3) (zrem v2 10)) 72 3) (zdiv v3 100)) 78 ((zup (zup (zup (zup s 74 (s 72 3) v1) 75 ((zup s 74 (s 72 3) v1) 72 3) (zdiv v2 10)) 76 ((zup (zup s 74 (s 72 3) v1) 75 ((zup s 74 (s 72 3) v1) 72 3) (zdiv v2 10)) 72 3) (zrem v2 10)) 77 ((zup (zup (zup s 74 (s 72 3) v1) 75 ((zup s 74 (s 72 3) v1) 72 3) (zdiv v2 10)) 76 ((zup (zup s 74 (s 72 3) v1) 75 ((zup s 74 (s 72 3) v1) 72 3) (zdiv v2 10)) 72 3) (zrem v2 10)) 72 3) (zdiv v3 100)) 72 3) (zrem v3 100)) 79 ((zup (zup (zup (zup (zup s 74 (s 72 3) v1) 75 ((zup s 74 (s 72 3) v1) 72 3) (zdiv v2 10)) 76 ((zup (zup s 74 (s 72 3) v1) 75 ((zup s 74 (s 72 3) v1) 72 3) (zdiv v2 10)) 72 3) (zrem v2 10)) 77 ((zup (zup (zup s 74 (s 72 3) v1) 75 ((zup s 74 (s 72 3) v1) 72 3) (zdiv v2 10)) 76 ((zup (zup s 74 (s 72 3) v1) 75 ((zup s 74 (s 72 3) v1) 72 3) (zdiv v2 10)) 72 3) (zrem v2 10)) 72 3) (zdiv v3 100)) 78 ((zup (zup (zup (zup s 74 (s 72 3) v1) 75 ((zup s 74 (s 72 3) v1) 72 3) (zdiv v2 10)) 76 ((zup (zup s 74 (s 72 3) v1) 75 ((zup s 74 (s 72 3) v1) 72 3) (zdiv v2 10)) 72 3) (zrem v2 10)) 77 ((zup (zup (zup s 74 (s 72 3) v1) 75 ((zup s 74 (s 72 3) v1) 72 3) (zdiv v2 10)) 76 ((zup (zup s 74 (s 72 3) v1) 75 ((zup s 74 (s 72 3) v1) 72 3) (zdiv v2 10)) 72 3) (zrem v2 10)) 72 3) (zdiv v3 100)) 72 3) (zrem v3 100)) 72 3) v4) 72 3) 0) 72 3 (zw (((zup (zup (zup (zup (zup (zup (zup s 74 (s 72 3) v1) 75 ((zup s 74 (s 72 3) v1) 72 3) (zdiv v2 10)) 76 ((zup (zup s 74 (s 72 3) v1) 75 ((zup s 74 (s 72 3) v1) 72 3) (zdiv v2 10)) 72 3) (zrem v2 10)) 77 ((zup (zup (zup s 74 (s 72 3) v1) 75 ((zup s 74 (s 72 3) v1) 72 3) (zdiv v2 10)) 76 ((zup (zup s 74 (s 72 3) v1) 75 ((zup s 74 (s 72 3) v1) 72 3) (zdiv v2 10)) 72 3) (zrem v2 10)) 72 3) (zdiv v3 100)) 78 ((zup (zup (zup (zup s 74 (s 72 3) v1) 75 ((zup s 74 (s 72 3) v1) 72 3) (zdiv v2 10)) 76 ((zup (zup s 74 (s 72 3) v1) 75 ((zup s 74 (s 72 3) v1) 72 3) (zdiv v2 10)) 72 3) (zrem v2 10)) 77 ((zup (zup (zup s 74 (s 72 3) v1) 75 ((zup s 74 (s 72 3) v1) 72 3) (zdiv v2 10)) 76 ((zup (zup s 74 (s 72 3) v1) 75 ((zup s 74 (s 72 3) v1) 72 3) (zdiv v2 10)) 72 3) (zrem v2 10)) 72 3) (zdiv v3 100)) 72 3) (zrem v3 100)) 79 ((zup (zup (zup (zup (zup s 74 (s 72 3) v1) 75 ((zup s 74 (s 72 3) v1) 72 3) (zdiv v2 10)) 76 ((zup (zup s 74 (s 72 3) v1) 75 ((zup s 74 (s 72 3) v1) 72 3) (zdiv v2 10)) 72 3) (zrem v2 10)) 77 ((zup (zup (zup s 74 (s 72 3) v1) 75 ((zup s 74 (s 72 3) v1) 72 3) (zdiv v2 10)) 76 ((zup (zup s 74 (s 72 3) v1) 75 ((zup s 74 (s 72 3) v1) 72 3) (zdiv v2 10)) 72 3) (zrem v2 10)) 72 3) (zdiv v3 100)) 78 ((zup (zup (zup (zup s 74 (s 72 3) v1) 75 ((zup s 74 (s 72 3) v1) 72 3) (zdiv v2 10)) 76 ((zup (zup s 74 (s 72 3) v1) 75 ((zup s 74 (s 72 3) v1) 72 3) (zdiv v2 10)) 72 3) (zrem v2 10)) 77 ((zup (zup (zup s 74 (s 72 3) v1) 75 ((zup s 74 (s 72 3) v1) 72 3) (zdiv v2 10)) 76 ((zup (zup s 74 (s 72 3) v1) 75 ((zup s 74 (s 72 3) v1) 72 3) (zdiv v2 10)) 72 3) (zrem v2 10)) 72 3) (zdiv v3 100)) 72 3) (zrem v3 100)) 72 3) v4) 80 ((zup (zup (zup (zup (zup (zup s 74 (s 72 3) v1) 75 ((zup s 74 (s 72 3) v1) 72 3) (zdiv v2 10)) 76 ((zup (zup s 74 (s 72 3) v1) 75 ((zup s 74 (s 72 3) v1) 72 3) (zdiv v2 10)) 72 3) (zrem v2 10)) 77 ((zup (zup (zup s 74 (s 72 3) v1) 75 ((zup s 74 (s 72 3) v1) 72 3) (zdiv v2 10)) 76 ((zup (zup s 74 (s 72 3) v1) 75 ((zup s 74 (s 72 3) v1) 72 3) (zdiv v2 10)) 72 3) (zrem v2 10)) 72 3) (zdiv v3 100)) 78 ((zup (zup (zup (zup s 74 (s 72 3) v1) 75 ((zup s 74 (s 72 3) v1) 72 3) (zdiv v2 10)) 76 ((zup (zup s 74 (s 72 3) v1) 75 ((zup s 74 (s 72 3) v1) 72 3) (zdiv v2 10)) 72 3) (zrem v2 10)) 77 ((zup (zup (zup s 74 (s 72 3) v1) 75 ((zup s 74 (s 72 3) v1) 72 3) (zdiv v2 10)) 76 ((zup (zup s 74 (s 72 3) v1) 75 ((zup s 74 (s 72 3) v1) 72 3) (zdiv v2 10)) 72 3) (zrem v2 10)) 72 3) (zdiv v3 100)) 72 3) (zrem v3 100)) 79 ((zup (zup (zup (zup (zup s 74 (s 72 3) v1) 75 ((zup s 74 (s 72 3) v1) 72 3) (zdiv v2 10)) 76 ((zup (zup s 74 (s 72 3) v1) 75 ((zup s 74 (s 72 3) v1) 72 3) (zdiv v2 10)) 72 3) (zrem v2 10)) 77 ((zup (zup (zup s 74 (s 72 3) v1) 75 ((zup s 74 (s 72 3) v1) 72 3) (zdiv v2 10)) 76 ((zup (zup s 74 (s 72 3) v1) 75 ((zup s 74 (s 72 3) v1) 72 3) (zdiv v2 10)) 72 3) (zrem v2 10)) 72 3) (zdiv v3 100)) 78 ((zup (zup (zup (zup s 74 (s 72 3) v1) 75 ((zup s 74 (s 72 3) v1) 72 3) (zdiv v2 10)) 76 ((zup (zup s 74 (s 72 3) v1) 75 ((zup s 74 (s 72 3) v1) 72 3) (zdiv v2 10)) 72 3) (zrem v2 10)) 77 ((zup (zup (zup s 74 (s 72 3) v1) 75 ((zup s 74 (s 72 3) v1) 72 3) (zdiv v2 10)) 76 ((zup (zup s 74 (s 72 3) v1) 75 ((zup s 74 (s 72 3) v1) 72 3) (zdiv v2 10)) 72 3) (zrem v2 10)) 72 3) (zdiv v3 100)) 72 3) (zrem v3 100)) 72 3) v4) 72 3) 0) 72 3) + 1))) 72 3) - 1)) (zup (zup (zup (zup (zup (zup (zup (zup s 74 (s 72 3) v1) 75 ((zup s 74 (s 72 3) v1) 72 3) (zdiv v2 10)) 76 ((zup (zup s 74 (s 72 3) v1) 75 ((zup s 74 (s 72 3) v1) 72 3) (zdiv v2 10)) 72 3) (zrem v2 10)) 77 ((zup (zup (zup s 74 (s 72 3) v1) 75 ((zup s 74 (s 72 3) v1) 72 3) (zdiv v2 10)) 76 ((zup (zup s 74 (s 72 3) v1) 75 ((zup s 74 (s 72 3) v1) 72 3) (zdiv v2 10)) 72 3) (zrem v2 10)) 72 3) (zdiv v3 100)) 78 ((zup (zup (zup (zup s 74 (s 72 3) v1) 75 ((zup s 74 (s 72 3) v1) 72 3) (zdiv v2 10)) 76 ((zup (zup s 74 (s 72 3) v1) 75 ((zup s 74 (s 72 3) v1) 72 3) (zdiv v2 10)) 72 3) (zrem v2 10)) 77 ((zup (zup (zup s 74 (s 72 3) v1) 75 ((zup s 74 (s 72 3) v1) 72 3) (zdiv v2 10)) 76 ((zup (zup s 74 (s 72 3) v1) 75 ((zup s 74 (s 72 3) v1) 72 3) (zdiv v2 10)) 72 3) (zrem v2 10)) 72 3) (zdiv v3 100)) 72 3) (zrem v3 100)) 79 ((zup (zup (zup (zup (zup s 74 (s 72 3) v1) 75 ((zup s 74 (s 72 3) v1) 72 3) (zdiv v2 10)) 76 ((zup (zup s 74 (s 72 3) v1) 75 ((zup s 74 (s 72 3) v1) 72 3) (zdiv v2 10)) 72 3) (zrem v2 10)) 77 ((zup (zup (zup s 74 (s 72 3) v1) 75 ((zup s 74 (s 72 3) v1) 72 3) (zdiv v2 10)) 76 ((zup (zup s 74 (s 72 3) v1) 75 ((zup s 74 (s 72 3) v1) 72 3) (zdiv v2 10)) 72 3) (zrem v2 10)) 72 3) (zdiv v3 100)) 78 ((zup (zup (zup (zup s 74 (s 72 3) v1) 75 ((zup s 74 (s 72 3) v1) 72 3) (zdiv v2 10)) 76 ((zup (zup s 74 (s 72 3) v1) 75 ((zup s 74 (s 72 3) v1) 72 3) (zdiv v2 10)) 72 3) (zrem v2 10)) 77 ((zup (zup (zup s 74 (s 72 3) v1) 75 ((zup s 74 (s 72 3) v1) 72 3) (zdiv v2 10)) 76 ((zup (zup s 74 (s 72 3) v1) 75 ((zup s 74 (s 72 3) v1) 72 3) (zdiv v2 10)) 72 3) (zrem v2 10)) 72 3) (zdiv v3 100)) 72 3) (zrem v3 100)) 72 3) v4) 80 ((zup (zup (zup (zup (zup (zup s 74 (s 72 3) v1) 75 ((zup s 74 (s 72 3) v1) 72 3) (zdiv v2 10)) 76 ((zup (zup s 74 (s 72 3) v1) 75 ((zup s 74 (s 72 3) v1) 72 3) (zdiv v2 10)) 72 3) (zrem v2 10)) 77 ((zup (zup (zup s 74 (s 72 3) v1) 75 ((zup s 74 (s 72 3) v1) 72 3) (zdiv v2 10)) 76 ((zup (zup s 74 (s 72 3) v1) 75 ((zup s 74 (s 72 3) v1) 72 3) (zdiv v2 10)) 72 3) (zrem v2 10)) 72 3) (zdiv v3 100)) 78 ((zup (zup (zup (zup s 74 (s 72 3) v1) 75 ((zup s 74 (s 72 3) v1) 72 3) (zdiv v2 10)) 76 ((zup (zup s 74 (s 72 3) v1) 75 ((zup s 74 (s 72 3) v1) 72 3) (zdiv v2 10)) 72 3) (zrem v2 10)) 77 ((zup (zup (zup s 74 (s 72 3) v1) 75 ((zup s 74 (s 72 3) v1) 72 3) (zdiv v2 10)) 76 ((zup (zup s 74 (s 72 3) v1) 75 ((zup s 74 (s 72 3) v1) 72 3) (zdiv v2 10)) 72 3) (zrem v2 10)) 72 3) (zdiv v3 100)) 72 3) (zrem v3 100)) 79 ((zup (zup (zup (zup (zup s 74 (s 72 3) v1) 75 ((zup s 74 (s 72 3) v1) 72 3) (zdiv v2 10)) 76 ((zup (zup s 74 (s 72 3) v1) 75 ((zup s 74 (s 72 3) v1) 72 3) (zdiv v2 10)) 72 3) (zrem v2 10)) 77 ((zup (zup (zup s 74 (s 72 3) v1) 75 ((zup s 74 (s 72 3) v1) 72 3) (zdiv v2 10)) 76 ((zup (zup s 74 (s 72 3) v1) 75 ((zup s 74 (s 72 3) v1) 72 3) (zdiv v2 10)) 72 3) (zrem v2 10)) 72 3) (zdiv v3 100)) 78 ((zup (zup (zup (zup s 74 (s 72 3) v1) 75 ((zup s 74 (s 72 3) v1) 72 3) (zdiv v2 10)) 76 ((zup (zup s 74 (s 72 3) v1) 75 ((zup s 74 (s 72 3) v1) 72 3) (zdiv v2 10)) 72 3) (zrem v2 10)) 77 ((zup (zup (zup s 74 (s 72 3) v1) 75 ((zup s 74 (s 72 3) v1) 72 3) (zdiv v2 10)) 76 ((zup (zup s 74 (s 72 3) v1) 75 ((zup s 74 (s 72 3) v1) 72 3) (zdiv v2 10)) 72 3) (zrem v2 10)) 72 3) (zdiv v3 100)) 72 3) (zrem v3 100)) 72 3) v4) 72 3) 0) 72 3 (zw (((zup (zup (zup (zup (zup (zup (zup s 74 (s 72 3) v1) 75 ((zup s 74 (s 72 3) v1) 72 3) (zdiv v2 10)) 76 ((zup (zup s 74 (s 72 3) v1) 75 ((zup s 74 (s 72 3) v1) 72 3) (zdiv v2 10)) 72 3) (zrem v2 10)) 77 ((zup (zup (zup s 74 (s 72 3) v1) 75 ((zup s 74 (s 72 3) v1) 72 3) (zdiv v2 10)) 76 ((zup (zup s 74 (s 72 3) v1) 75 ((zup s 74 (s 72 3) v1) 72 3) (zdiv v2 10)) 72 3) (zrem v2 10)) 72 3) (zdiv v3 100)) 78 ((zup (zup (zup (zup s 74 (s 72 3) v1) 75 ((zup s 74 (s 72 3) v1) 72 3) (zdiv v2 10)) 76 ((zup (zup s 74 (s 72 3) v1) 75 ((zup s 74 (s 72 3) v1) 72 3) (zdiv v2 10)) 72 3) (zrem v2 10)) 77 ((zup (zup (zup s 74 (s 72 3) v1) 75 ((zup s 74 (s 72 3) v1) 72 3) (zdiv v2 10)) 76 ((zup (zup s 74 (s 72 3) v1) 75 ((zup s 74 (s 72 3) v1) 72 3) (zdiv v2 10)) 72 3) (zrem v2 10)) 72 3) (zdiv v3 100)) 72 3) (zrem v3 100)) 79 ((zup (zup (zup (zup (zup s 74 (s 72 3) v1) 75 ((zup s 74 (s 72 3) v1) 72 3) (zdiv v2 10)) 76 ((zup (zup s 74 (s 72 3) v1) 75 ((zup s 74 (s 72 3) v1) 72 3) (zdiv v2 10)) 72 3) (zrem v2 10)) 77 ((zup (zup (zup s 74 (s 72 3) v1) 75 ((zup s 74 (s 72 3) v1) 72 3) (zdiv v2 10)) 76 ((zup (zup s 74 (s 72 3) v1) 75 ((zup s 74 (s 72 3) v1) 72 3) (zdiv v2 10)) 72 3) (zrem v2 10)) 72 3) (zdiv v3 100)) 78 ((zup (zup (zup (zup s 74 (s 72 3) v1) 75 ((zup s 74 (s 72 3) v1) 72 3) (zdiv v2 10)) 76 ((zup (zup s 74 (s 72 3) v1) 75 ((zup s 74 (s 72 3) v1) 72 3) (zdiv v2 10)) 72 3) (zrem v2 10)) 77 ((zup (zup (zup s 74 (s 72 3) v1) 75 ((zup s 74 (s 72 3) v1) 72 3) (zdiv v2 10)) 76 ((zup (zup s 74 (s 72 3) v1) 75 ((zup s 74 (s 72 3) v1) 72 3) (zdiv v2 10)) 72 3) (zrem v2 10)) 72 3) (zdiv v3 100)) 72 3) (zrem v3 100)) 72 3) v4) 80 ((zup (zup (zup (zup (zup (zup s 74 (s 72 3) v1) 75 ((zup s 74 (s 72 3) v1) 72 3) (zdiv v2 10)) 76 ((zup (zup s 74 (s 72 3) v1) 75 ((zup s 74 (s 72 3) v1) 72 3) (zdiv v2 10)) 72 3) (zrem v2 10)) 77 ((zup (zup (zup s 74 (s 72 3) v1) 75 ((zup s 74 (s 72 3) v1) 72 3) (zdiv v2 10)) 76 ((zup (zup s 74 (s 72 3) v1) 75 ((zup s 74 (s 72 3) v1) 72 3) (zdiv v2 10)) 72 3) (zrem v2 10)) 72 3) (zdiv v3 100)) 78 ((zup (zup (zup (zup s 74 (s 72 3) v1) 75 ((zup s 74 (s 72 3) v1) 72 3) (zdiv v2 10)) 76 ((zup (zup s 74 (s 72 3) v1) 75 ((zup s 74 (s 72 3) v1) 72 3) (zdiv v2 10)) 72 3) (zrem v2 10)) 77 ((zup (zup (zup s 74 (s 72 3) v1) 75 ((zup s 74 (s 72 3) v1) 72 3) (zdiv v2 10)) 76 ((zup (zup s 74 (s 72 3) v1) 75 ((zup s 74 (s 72 3) v1) 72 3) (zdiv v2 10)) 72 3) (zrem v2 10)) 72 3) (zdiv v3 100)) 72 3) (zrem v3 100)) 79 ((zup (zup (zup (zup (zup s 74 (s 72 3) v1) 75 ((zup s 74 (s 72 3) v1) 72 3) (zdiv v2 10)) 76 ((zup (zup s 74 (s 72 3) v1) 75 ((zup s 74 (s 72 3) v1) 72 3) (zdiv v2 10)) 72 3) (zrem v2 10)) 77 ((zup (zup (zup s 74 (s 72 3) v1) 75 ((zup s 74 (s 72 3) v1) 72 3) (zdiv v2 10)) 76 ((zup (zup s 74 (s 72 3) v1) 75 ((zup s 74 (s 72 3) v1) 72 3) (zdiv v2 10)) 72 3) (zrem v2 10)) 72 3) (zdiv v3 100)) 78 ((zup (zup (zup (zup s 74 (s 72 3) v1) 75 ((zup s 74 (s 72 3) v1) 72 3) (zdiv v2 10)) 76 ((zup (zup s 74 (s 72 3) v1) 75 ((zup s 74 (s 72 3) v1) 72 3) (zdiv v2 10)) 72 3) (zrem v2 10)) 77 ((zup (zup (zup s 74 (s 72 3) v1) 75 ((zup s 74 (s 72 3) v1) 72 3) (zdiv v2 10)) 76 ((zup (zup s 74 (s 72 3) v1) 75 ((zup s 74 (s 72 3) v1) 72 3) (zdiv v2 10)) 72 3) (zrem v2 10)) 72 3) (zdiv v3 100)) 72 3) (zrem v3 100)) 72 3) v4) 72 3) 0) 72 3) + 1)))) : Fr xs L T0 106 d 168 91 [some (rf 73), some (it v1), some (it v2), some (it v3), some (it v4)] [] s (qi P) := by
  refine Fr.aldn (c := 73) (by decide +kernel : zi 168 91 = some (.aload_n 0, 1)) rfl ⟨by omega, by omega⟩ ?_
  refine Fr.gR (c := 72) (c2 := 75) (ci := 8) (k := 4) 4 (by decide +kernel : zi 168 92 = some (.getfield 13, 3)) (by decide +kernel) (by decide +kernel) (by decide +kernel) (by decide) rfl (fun q => q (72, 4, 75) (by decide +kernel)) ?_
  refine Fr.aldn (c := 73) (by decide +kernel : zi 168 95 = some (.aload_n 0, 1)) rfl ⟨by omega, by omega⟩ ?_
  refine Fr.gI (c := 72) (ci := 8) (k := 3) (t := 0) 3 (by decide +kernel : zi 168 96 = some (.getfield 122, 3)) (by decide +kernel) (by decide +kernel) (by decide +kernel) (by decide) rfl ?_
  refine Fr.ildn (by decide +kernel : zi 168 99 = some (.iload_n 1, 1)) rfl ?_
  obtain ⟨⟨g0, g1⟩, h⟩ := h
  refine Fr.iast (c := 74) (N := 7) (by decide +kernel : zi 168 100 = some (.iastore, 1)) (by decide +kernel) (by decide) g0 g1 ?_
  refine Fr.aldn (c := 73) (by decide +kernel : zi 168 101 = some (.aload_n 0, 1)) rfl ⟨by omega, by omega⟩ ?_
  refine Fr.gR (c := 72) (c2 := 76) (ci := 8) (k := 5) 5 (by decide +kernel : zi 168 102 = some (.getfield 16, 3)) (by decide +kernel) (by decide +kernel) (by decide +kernel) (by decide) rfl (fun q => q (72, 5, 76) (by decide +kernel)) ?_
  refine Fr.aldn (c := 73) (by decide +kernel : zi 168 105 = some (.aload_n 0, 1)) rfl ⟨by omega, by omega⟩ ?_
  refine Fr.gI (c := 72) (ci := 8) (k := 3) (t := 0) 3 (by decide +kernel : zi 168 106 = some (.getfield 122, 3)) (by decide +kernel) (by decide +kernel) (by decide +kernel) (by decide) rfl ?_
  refine Fr.ildn (by decide +kernel : zi 168 109 = some (.iload_n 2, 1)) rfl ?_
  refine Fr.bipush (by decide +kernel : zi 168 110 = some (.bipush 10, 2)) (by decide) ?_
  refine Fr.idiv (by decide +kernel : zi 168 112 = some (.idiv, 1)) (by decide) ?_
  obtain ⟨⟨g0, g1⟩, h⟩ := h
  refine Fr.iast (c := 75) (N := 7) (by decide +kernel : zi 168 113 = some (.iastore, 1)) (by decide +kernel) (by decide) g0 g1 ?_
  refine Fr.aldn (c := 73) (by decide +kernel : zi 168 114 = some (.aload_n 0, 1)) rfl ⟨by omega, by omega⟩ ?_
  refine Fr.gR (c := 72) (c2 := 77) (ci := 8) (k := 6) 6 (by decide +kernel : zi 168 115 = some (.getfield 19, 3)) (by decide +kernel) (by decide +kernel) (by decide +kernel) (by decide) rfl (fun q => q (72, 6, 77) (by decide +kernel)) ?_
  refine Fr.aldn (c := 73) (by decide +kernel : zi 168 118 = some (.aload_n 0, 1)) rfl ⟨by omega, by omega⟩ ?_
  refine Fr.gI (c := 72) (ci := 8) (k := 3) (t := 0) 3 (by decide +kernel : zi 168 119 = some (.getfield 122, 3)) (by decide +kernel) (by decide +kernel) (by decide +kernel) (by decide) rfl ?_
  refine Fr.ildn (by decide +kernel : zi 168 122 = some (.iload_n 2, 1)) rfl ?_
  refine Fr.bipush (by decide +kernel : zi 168 123 = some (.bipush 10, 2)) (by decide) ?_
  refine Fr.irem (by decide +kernel : zi 168 125 = some (.irem, 1)) (by decide) ?_
  obtain ⟨⟨g0, g1⟩, h⟩ := h
  refine Fr.iast (c := 76) (N := 7) (by decide +kernel : zi 168 126 = some (.iastore, 1)) (by decide +kernel) (by decide) g0 g1 ?_
  refine Fr.aldn (c := 73) (by decide +kernel : zi 168 127 = some (.aload_n 0, 1)) rfl ⟨by omega, by omega⟩ ?_
  refine Fr.gR (c := 72) (c2 := 78) (ci := 8) (k := 7) 7 (by decide +kernel : zi 168 128 = some (.getfield 22, 3)) (by decide +kernel) (by decide +kernel) (by decide +kernel) (by decide) rfl (fun q => q (72, 7, 78) (by decide +kernel)) ?_
  refine Fr.aldn (c := 73) (by decide +kernel : zi 168 131 = some (.aload_n 0, 1)) rfl ⟨by omega, by omega⟩ ?_
  refine Fr.gI (c := 72) (ci := 8) (k := 3) (t := 0) 3 (by decide +kernel : zi 168 132 = some (.getfield 122, 3)) (by decide +kernel) (by decide +kernel) (by decide +kernel) (by decide) rfl ?_
  refine Fr.ildn (by decide +kernel : zi 168 135 = some (.iload_n 3, 1)) rfl ?_
  refine Fr.bipush (by decide +kernel : zi 168 136 = some (.bipush 100, 2)) (by decide) ?_
  refine Fr.idiv (by decide +kernel : zi 168 138 = some (.idiv, 1)) (by decide) ?_
  obtain ⟨⟨g0, g1⟩, h⟩ := h
  refine Fr.iast (c := 77) (N := 7) (by decide +kernel : zi 168 139 = some (.iastore, 1)) (by decide +kernel) (by decide) g0 g1 ?_
  refine Fr.aldn (c := 73) (by decide +kernel : zi 168 140 = some (.aload_n 0, 1)) rfl ⟨by omega, by omega⟩ ?_
  refine Fr.gR (c := 72) (c2 := 79) (ci := 8) (k := 8) 8 (by decide +kernel : zi 168 141 = some (.getfield 25, 3)) (by decide +kernel) (by decide +kernel) (by decide +kernel) (by decide) rfl (fun q => q (72, 8, 79) (by decide +kernel)) ?_
  refine Fr.aldn (c := 73) (by decide +kernel : zi 168 144 = some (.aload_n 0, 1)) rfl ⟨by omega, by omega⟩ ?_
  refine Fr.gI (c := 72) (ci := 8) (k := 3) (t := 0) 3 (by decide +kernel : zi 168 145 = some (.getfield 122, 3)) (by decide +kernel) (by decide +kernel) (by decide +kernel) (by decide) rfl ?_
  refine Fr.ildn (by decide +kernel : zi 168 148 = some (.iload_n 3, 1)) rfl ?_
  refine Fr.bipush (by decide +kernel : zi 168 149 = some (.bipush 100, 2)) (by decide) ?_
  refine Fr.irem (by decide +kernel : zi 168 151 = some (.irem, 1)) (by decide) ?_
  obtain ⟨⟨g0, g1⟩, h⟩ := h
  refine Fr.iast (c := 78) (N := 7) (by decide +kernel : zi 168 152 = some (.iastore, 1)) (by decide +kernel) (by decide) g0 g1 ?_
  refine Fr.aldn (c := 73) (by decide +kernel : zi 168 153 = some (.aload_n 0, 1)) rfl ⟨by omega, by omega⟩ ?_
  refine Fr.gR (c := 72) (c2 := 80) (ci := 8) (k := 9) 9 (by decide +kernel : zi 168 154 = some (.getfield 28, 3)) (by decide +kernel) (by decide +kernel) (by decide +kernel) (by decide) rfl (fun q => q (72, 9, 80) (by decide +kernel)) ?_
  refine Fr.aldn (c := 73) (by decide +kernel : zi 168 157 = some (.aload_n 0, 1)) rfl ⟨by omega, by omega⟩ ?_
  refine Fr.gI (c := 72) (ci := 8) (k := 3) (t := 0) 3 (by decide +kernel : zi 168 158 = some (.getfield 122, 3)) (by decide +kernel) (by decide +kernel) (by decide +kernel) (by decide) rfl ?_
  refine Fr.ild (by decide +kernel : zi 168 161 = some (.iload 4, 2)) rfl ?_
  obtain ⟨⟨g0, g1⟩, h⟩ := h
  refine Fr.iast (c := 79) (N := 7) (by decide +kernel : zi 168 163 = some (.iastore, 1)) (by decide +kernel) (by decide) g0 g1 ?_
  refine Fr.aldn (c := 73) (by decide +kernel : zi 168 164 = some (.aload_n 0, 1)) rfl ⟨by omega, by omega⟩ ?_
  refine Fr.gR (c := 72) (c2 := 81) (ci := 8) (k := 10) 10 (by decide +kernel : zi 168 165 = some (.getfield 31, 3)) (by decide +kernel) (by decide +kernel) (by decide +kernel) (by decide) rfl (fun q => q (72, 10, 81) (by decide +kernel)) ?_
  refine Fr.aldn (c := 73) (by decide +kernel : zi 168 168 = some (.aload_n 0, 1)) rfl ⟨by omega, by omega⟩ ?_
  refine Fr.gI (c := 72) (ci := 8) (k := 3) (t := 0) 3 (by decide +kernel : zi 168 169 = some (.getfield 122, 3)) (by decide +kernel) (by decide +kernel) (by decide +kernel) (by decide) rfl ?_
  refine Fr.iconst (by decide +kernel : zi 168 172 = some (.iconst 0, 1)) (by decide) ?_
  obtain ⟨⟨g0, g1⟩, h⟩ := h
  refine Fr.iast (c := 80) (N := 7) (by decide +kernel : zi 168 173 = some (.iastore, 1)) (by decide +kernel) (by decide) g0 g1 ?_
  refine Fr.aldn (c := 73) (by decide +kernel : zi 168 174 = some (.aload_n 0, 1)) rfl ⟨by omega, by omega⟩ ?_
  refine Fr.dup (by decide +kernel : zi 168 175 = some (.dup, 1)) rfl ?_
  refine Fr.gI (c := 72) (ci := 8) (k := 3) (t := 0) 3 (by decide +kernel : zi 168 176 = some (.getfield 122, 3)) (by decide +kernel) (by decide +kernel) (by decide +kernel) (by decide) rfl ?_
  refine Fr.iconst (by decide +kernel : zi 168 179 = some (.iconst 1, 1)) (by decide) ?_
  refine Fr.iadd (by decide +kernel : zi 168 180 = some (.iadd, 1)) ?_
  refine Fr.pI (c := 72) (ci := 8) (k := 3) 3 (by decide +kernel : zi 168 181 = some (.putfield 122, 3)) (by decide +kernel) (by decide +kernel) (by decide +kernel) (by decide) rfl ?_
  refine Fr.aldn (c := 73) (by decide +kernel : zi 168 184 = some (.aload_n 0, 1)) rfl ⟨by omega, by omega⟩ ?_
  refine Fr.gI (c := 72) (ci := 8) (k := 3) (t := 0) 3 (by decide +kernel : zi 168 185 = some (.getfield 122, 3)) (by decide +kernel) (by decide +kernel) (by decide +kernel) (by decide) rfl ?_
  refine Fr.iconst (by decide +kernel : zi 168 188 = some (.iconst 1, 1)) (by decide) ?_
  refine Fr.isub (by decide +kernel : zi 168 189 = some (.isub, 1)) ?_
  exact Fr.retI (by decide +kernel : zi 168 190 = some (.ireturn, 1)) (by decide +kernel) h
-- 169 X8_foe
theorem f169_0 {xs : Nat → Int} {L : Nat} {d : Nat} {v1 : Int} {v2 : Int} {v3 : Int} {s : Pl} {P : Int → Pl → Prop} (h : Ev xs L T0 106 d 135 [rf 73, it v1] s (qi fun r2 s1 => ((r2 = 0 → P (-1) s1) ∧ (¬ (r2 = 0) → Ev xs L T0 106 d 135 [rf 73, it v2] s1 (qi fun r4 s3 => ((r4 = 0 → P (-1) s3) ∧ (¬ (r4 = 0) → ((¬ v1 = v2 → Ev xs L T0 106 d 132 [it v3, it 0, it 1] s3 (qi fun r6 s5 => ((¬ r6 = 0 → (0 ≤ v1 ∧ v1 < 7) ∧ (0 ≤ v1 ∧ v1 < 7) ∧ (0 ≤ v1 ∧ v1 < 7) ∧ (0 ≤ v2 ∧ v2 < 7) ∧ (0 ≤ v2 ∧ v2 < 7) ∧ P (zand (zshr (s5 80 v1) v2) 1) (zup (zup s5 80 v1 (zor (zand (s5 80 v1) (zxor (zshl 1 v2) (-1))) (zshl v3 v2))) 80 v2 (zor (zand ((zup s5 80 v1 (zor (zand (s5 80 v1) (zxor (zshl 1 v2) (-1))) (zshl v3 v2))) 80 v2) (zxor (zshl 1 v1) (-1))) (zshl v3 v1)))) ∧ (¬ (¬ r6 = 0) → P (-2) s5)))) ∧ (¬ (¬ v1 = v2) → P (-1) s3))))))))) : Fr xs L T0 106 d 169 0 [some (rf 73), some (it v1), some (it v2), some (it v3), none] [] s (qi P) := by
  refine Fr.aldn (c := 73) (by decide +kernel : zi 169 0 = some (.aload_n 0, 1)) rfl ⟨by omega, by omega⟩ ?_
  refine Fr.ildn (by decide +kernel : zi 169 1 = some (.iload_n 1, 1)) rfl ?_
  refine Fr.callI (y2 := 135) (na := 2) (as := [rf 73, it v1]) (rest := []) (by decide +kernel : zi 169 2 = some (.invokevirtual 237, 3)) rfl (by decide +kernel) (by decide +kernel) rfl rfl (zok_V rfl (by decide) (by decide +kernel) (by decide +kernel) (zrecv_c (c := 72) (by decide) (by decide +kernel)) rfl (Nat.le_of_ble_eq_true rfl)) h (fun r2 s1 h => ?_)
  refine Fr.if0 (q := 21) (by decide +kernel : zi 169 5 = some (.ifCond .eq 16, 3)) (by decide +kernel) (fun g9 => ?_) (fun g9 => ?_)
  · have h := h.1 g9
    refine Fr.iconst (by decide +kernel : zi 169 21 = some (.iconst (-1), 1)) (by decide) ?_
    exact Fr.retI (by decide +kernel : zi 169 22 = some (.ireturn, 1)) (by decide +kernel) h
  · have h := h.2 g9
    refine Fr.aldn (c := 73) (by decide +kernel : zi 169 8 = some (.aload_n 0, 1)) rfl ⟨by omega, by omega⟩ ?_
    refine Fr.ildn (by decide +kernel : zi 169 9 = some (.iload_n 2, 1)) rfl ?_
    refine Fr.callI (y2 := 135) (na := 2) (as := [rf 73, it v2]) (rest := []) (by decide +kernel : zi 169 10 = some (.invokevirtual 237, 3)) rfl (by decide +kernel) (by decide +kernel) rfl rfl (zok_V rfl (by decide) (by decide +kernel) (by decide +kernel) (zrecv_c (c := 72) (by decide) (by decide +kernel)) rfl (Nat.le_of_ble_eq_true rfl)) h (fun r4 s3 h => ?_)
    refine Fr.if0 (q := 21) (by decide +kernel : zi 169 13 = some (.ifCond .eq 8, 3)) (by decide +kernel) (fun g9 => ?_) (fun g9 => ?_)
    · have h := h.1 g9
      refine Fr.iconst (by decide +kernel : zi 169 21 = some (.iconst (-1), 1)) (by decide) ?_
      exact Fr.retI (by decide +kernel : zi 169 22 = some (.ireturn, 1)) (by decide +kernel) h
    · have h := h.2 g9
      refine Fr.ildn (by decide +kernel : zi 169 16 = some (.iload_n 1, 1)) rfl ?_
      refine Fr.ildn (by decide +kernel : zi 169 17 = some (.iload_n 2, 1)) rfl ?_
      refine Fr.if2 (q := 23) (by decide +kernel : zi 169 18 = some (.if_icmp .ne 5, 3)) (by decide +kernel) (fun g9 => ?_) (fun g9 => ?_)
      · have h := h.1 g9
        refine Fr.ildn (by decide +kernel : zi 169 23 = some (.iload_n 3, 1)) rfl ?_
        refine Fr.iconst (by decide +kernel : zi 169 24 = some (.iconst 0, 1)) (by decide) ?_
        refine Fr.iconst (by decide +kernel : zi 169 25 = some (.iconst 1, 1)) (by decide) ?_
        refine Fr.callI (y2 := 132) (na := 3) (as := [it v3, it 0, it 1]) (rest := []) (by decide +kernel : zi 169 26 = some (.invokestatic 118, 3)) rfl (by decide +kernel) (by decide +kernel) rfl rfl (zok_S rfl (by decide) (by decide +kernel) rfl (Nat.le_of_ble_eq_true rfl)) h (fun r6 s5 h => ?_)
        refine Fr.if0 (q := 35) (by decide +kernel : zi 169 29 = some (.ifCond .ne 6, 3)) (by decide +kernel) (fun g9 => ?_) (fun g9 => ?_)
        · have h := h.1 g9
          refine Fr.aldn (c := 73) (by decide +kernel : zi 169 35 = some (.aload_n 0, 1)) rfl ⟨by omega, by omega⟩ ?_
          refine Fr.gR (c := 72) (c2 := 81) (ci := 8) (k := 10) 10 (by decide +kernel : zi 169 36 = some (.getfield 31, 3)) (by decide +kernel) (by decide +kernel) (by decide +kernel) (by decide) rfl (fun q => q (72, 10, 81) (by decide +kernel)) ?_
          refine Fr.ildn (by decide +kernel : zi 169 39 = some (.iload_n 1, 1)) rfl ?_
          obtain ⟨⟨g0, g1⟩, h⟩ := h
          refine Fr.iald (c := 80) (N := 7) (by decide +kernel : zi 169 40 = some (.iaload, 1)) (by decide +kernel) (by decide) g0 g1 ?_
          refine Fr.ildn (by decide +kernel : zi 169 41 = some (.iload_n 2, 1)) rfl ?_
          refine Fr.ishr (by decide +kernel : zi 169 42 = some (.ishr, 1)) ?_
          refine Fr.iconst (by decide +kernel : zi 169 43 = some (.iconst 1, 1)) (by decide) ?_
          refine Fr.iand (by decide +kernel : zi 169 44 = some (.iand, 1)) ?_
          refine Fr.ist (lv2 := [some (rf 73), some (it v1), some (it v2), some (it v3), some (it (zand (zshr (s5 80 v1) v2) 1))]) (by decide +kernel : zi 169 45 = some (.istore 4, 2)) (Nat.le_of_ble_eq_true rfl) rfl ?_
          refine Fr.aldn (c := 73) (by decide +kernel : zi 169 47 = some (.aload_n 0, 1)) rfl ⟨by omega, by omega⟩ ?_
          refine Fr.gR (c := 72) (c2 := 81) (ci := 8) (k := 10) 10 (by decide +kernel : zi 169 48 = some (.getfield 31, 3)) (by decide +kernel) (by decide +kernel) (by decide +kernel) (by decide) rfl (fun q => q (72, 10, 81) (by decide +kernel)) ?_
          refine Fr.ildn (by decide +kernel : zi 169 51 = some (.iload_n 1, 1)) rfl ?_
          refine Fr.aldn (c := 73) (by decide +kernel : zi 169 52 = some (.aload_n 0, 1)) rfl ⟨by omega, by omega⟩ ?_
          refine Fr.gR (c := 72) (c2 := 81) (ci := 8) (k := 10) 10 (by decide +kernel : zi 169 53 = some (.getfield 31, 3)) (by decide +kernel) (by decide +kernel) (by decide +kernel) (by decide) rfl (fun q => q (72, 10, 81) (by decide +kernel)) ?_
          refine Fr.ildn (by decide +kernel : zi 169 56 = some (.iload_n 1, 1)) rfl ?_
          obtain ⟨⟨g0, g1⟩, h⟩ := h
          refine Fr.iald (c := 80) (N := 7) (by decide +kernel : zi 169 57 = some (.iaload, 1)) (by decide +kernel) (by decide) g0 g1 ?_
          refine Fr.iconst (by decide +kernel : zi 169 58 = some (.iconst 1, 1)) (by decide) ?_
          refine Fr.ildn (by decide +kernel : zi 169 59 = some (.iload_n 2, 1)) rfl ?_
          refine Fr.ishl (by decide +kernel : zi 169 60 = some (.ishl, 1)) ?_
          refine Fr.iconst (by decide +kernel : zi 169 61 = some (.iconst (-1), 1)) (by decide) ?_
          refine Fr.ixor (by decide +kernel : zi 169 62 = some (.ixor, 1)) ?_
          refine Fr.iand (by decide +kernel : zi 169 63 = some (.iand, 1)) ?_
          refine Fr.ildn (by decide +kernel : zi 169 64 = some (.iload_n 3, 1)) rfl ?_
          refine Fr.ildn (by decide +kernel : zi 169 65 = some (.iload_n 2, 1)) rfl ?_
          refine Fr.ishl (by decide +kernel : zi 169 66 = some (.ishl, 1)) ?_
          refine Fr.ior (by decide +kernel : zi 169 67 = some (.ior, 1)) ?_
          obtain ⟨⟨g0, g1⟩, h⟩ := h
          refine Fr.iast (c := 80) (N := 7) (by decide +kernel : zi 169 68 = some (.iastore, 1)) (by decide +kernel) (by decide) g0 g1 ?_
          refine Fr.aldn (c := 73) (by decide +kernel : zi 169 69 = some (.aload_n 0, 1)) rfl ⟨by omega, by omega⟩ ?_
          refine Fr.gR (c := 72) (c2 := 81) (ci := 8) (k := 10) 10 (by decide +kernel : zi 169 70 = some (.getfield 31, 3)) (by decide +kernel) (by decide +kernel) (by decide +kernel) (by decide) rfl (fun q => q (72, 10, 81) (by decide +kernel)) ?_
          refine Fr.ildn (by decide +kernel : zi 169 73 = some (.iload_n 2, 1)) rfl ?_
          refine Fr.aldn (c := 73) (by decide +kernel : zi 169 74 = some (.aload_n 0, 1)) rfl ⟨by omega, by omega⟩ ?_
          refine Fr.gR (c := 72) (c2 := 81) (ci := 8) (k := 10) 10 (by decide +kernel : zi 169 75 = some (.getfield 31, 3)) (by decide +kernel) (by decide +kernel) (by decide +kernel) (by decide) rfl (fun q => q (72, 10, 81) (by decide +kernel)) ?_
          refine Fr.ildn (by decide +kernel : zi 169 78 = some (.iload_n 2, 1)) rfl ?_
          obtain ⟨⟨g0, g1⟩, h⟩ := h
          refine Fr.iald (c := 80) (N := 7) (by decide +kernel : zi 169 79 = some (.iaload, 1)) (by decide +kernel) (by decide) g0 g1 ?_
          refine Fr.iconst (by decide +kernel : zi 169 80 = some (.iconst 1, 1)) (by decide) ?_
          refine Fr.ildn (by decide +kernel : zi 169 81 = some (.iload_n 1, 1)) rfl ?_
          refine Fr.ishl (by decide +kernel : zi 169 82 = some (.ishl, 1)) ?_
          refine Fr.iconst (by decide +kernel : zi 169 83 = some (.iconst (-1), 1)) (by decide) ?_
          refine Fr.ixor (by decide +kernel : zi 169 84 = some (.ixor, 1)) ?_
          refine Fr.iand (by decide +kernel : zi 169 85 = some (.iand, 1)) ?_
          refine Fr.ildn (by decide +kernel : zi 169 86 = some (.iload_n 3, 1)) rfl ?_
          refine Fr.ildn (by decide +kernel : zi 169 87 = some (.iload_n 1, 1)) rfl ?_
          refine Fr.ishl (by decide +kernel : zi 169 88 = some (.ishl, 1)) ?_
          refine Fr.ior (by decide +kernel : zi 169 89 = some (.ior, 1)) ?_
          obtain ⟨⟨g0, g1⟩, h⟩ := h
          refine Fr.iast (c := 80) (N := 7) (by decide +kernel : zi 169 90 = some (.iastore, 1)) (by decide +kernel) (by decide) g0 g1 ?_
          refine Fr.ild (by decide +kernel : zi 169 91 = some (.iload 4, 2)) rfl ?_
          exact Fr.retI (by decide +kernel : zi 169 93 = some (.ireturn, 1)) (by decide +kernel) h
        · have h := h.2 g9
          refine Fr.bipush (by decide +kernel : zi 169 32 = some (.bipush (-2), 2)) (by decide) ?_
          exact Fr.retI (by decide +kernel : zi 169 34 = some (.ireturn, 1)) (by decide +kernel) h
      · have h := h.2 g9
        refine Fr.iconst (by decide +kernel : zi 169 21 = some (.iconst (-1), 1)) (by decide) ?_
        exact Fr.retI (by decide +kernel : zi 169 22 = some (.ireturn, 1)) (by decide +kernel) h
theorem e169 {xs : Nat → Int} {L : Nat} {d : Nat} {v1 : Int} {v2 : Int} {v3 : Int} {s : Pl} {Q : Option AV → Pl → Prop} (hd : 1 ≤ d) (k : Fr xs L T0 106 (d - 1) 169 0 [some (rf 73), some (it v1), some (it v2), some (it v3), none] [] s Q) : Ev xs L T0 106 d 169 [rf 73, it v1, it v2, it v3] s Q := Ev.of (by decide) _ rfl hd k
-- 170 X8_told
theorem f170_0 {xs : Nat → Int} {L : Nat} {d : Nat} {v1 : Int} {v2 : Int} {s : Pl} {P : Int → Pl → Prop} (h : Ev xs L T0 106 d 135 [rf 73, it v1] s (qi fun r2 s1 => ((¬ r2 = 0 → ((v2 < 0 ∨ 6 < v2 → P (-7) s1) ∧ (v2 = 0 → (0 ≤ v1 ∧ v1 < 7) ∧ P (s1 74 v1) s1) ∧ (v2 = 1 → (0 ≤ v1 ∧ v1 < 7) ∧ P (s1 75 v1) s1) ∧ (v2 = 2 → (0 ≤ v1 ∧ v1 < 7) ∧ P (s1 76 v1) s1) ∧ (v2 = 3 → (0 ≤ v1 ∧ v1 < 7) ∧ P (s1 77 v1) s1) ∧ (v2 = 4 → (0 ≤ v1 ∧ v1 < 7) ∧ P (s1 78 v1) s1) ∧ (v2 = 5 → (0 ≤ v1 ∧ v1 < 7) ∧ P (s1 79 v1) s1) ∧ (v2 = 6 → (0 ≤ v1 ∧ v1 < 7) ∧ P (s1 80 v1) s1))) ∧ (¬ (¬ r2 = 0) → P (-5) s1)))) : Fr xs L T0 106 d 170 0 [some (rf 73), some (it v1), some (it v2)] [] s (qi P) := by
  refine Fr.aldn (c := 73) (by decide +kernel : zi 170 0 = some (.aload_n 0, 1)) rfl ⟨by omega, by omega⟩ ?_
  refine Fr.ildn (by decide +kernel : zi 170 1 = some (.iload_n 1, 1)) rfl ?_
  refine Fr.callI (y2 := 135) (na := 2) (as := [rf 73, it v1]) (rest := []) (by decide +kernel : zi 170 2 = some (.invokevirtual 237, 3)) rfl (by decide +kernel) (by decide +kernel) rfl rfl (zok_V rfl (by decide) (by decide +kernel) (by decide +kernel) (zrecv_c (c := 72) (by decide) (by decide +kernel)) rfl (Nat.le_of_ble_eq_true rfl)) h (fun r2 s1 h => ?_)
  refine Fr.if0 (q := 11) (by decide +kernel : zi 170 5 = some (.ifCond .ne 6, 3)) (by decide +kernel) (fun g9 => ?_) (fun g9 => ?_)
  · have h := h.1 g9
    refine Fr.ildn (by decide +kernel : zi 170 11 = some (.iload_n 2, 1)) rfl ?_
    rcases (show (v2 < 0 ∨ 6 < v2) ∨ v2 = 0 ∨ v2 = 1 ∨ v2 = 2 ∨ v2 = 3 ∨ v2 = 4 ∨ v2 = 5 ∨ v2 = 6 by omega) with g9 | g9 | g9 | g9 | g9 | g9 | g9 | g9
    · have h := h.1 g9
      refine Fr.tsd (q := 105) (by decide +kernel : zi 170 12 = some (.tableswitch 93 0 6 #[44, 51, 58, 65, 72, 79, 86], 44)) g9 (by decide +kernel) ?_
      refine Fr.bipush (by decide +kernel : zi 170 105 = some (.bipush (-7), 2)) (by decide) ?_
      exact Fr.retI (by decide +kernel : zi 170 107 = some (.ireturn, 1)) (by decide +kernel) h
    · have h := h.2.1 g9
      refine Fr.tsw (off := 44) (q := 56) (by decide +kernel : zi 170 12 = some (.tableswitch 93 0 6 #[44, 51, 58, 65, 72, 79, 86], 44)) (by omega) (by rw [g9]; decide +kernel) (by decide +kernel) ?_
      refine Fr.aldn (c := 73) (by decide +kernel : zi 170 56 = some (.aload_n 0, 1)) rfl ⟨by omega, by omega⟩ ?_
      refine Fr.gR (c := 72) (c2 := 75) (ci := 8) (k := 4) 4 (by decide +kernel : zi 170 57 = some (.getfield 13, 3)) (by decide +kernel) (by decide +kernel) (by decide +kernel) (by decide) rfl (fun q => q (72, 4, 75) (by decide +kernel)) ?_
      refine Fr.ildn (by decide +kernel : zi 170 60 = some (.iload_n 1, 1)) rfl ?_
      obtain ⟨⟨g0, g1⟩, h⟩ := h
      refine Fr.iald (c := 74) (N := 7) (by decide +kernel : zi 170 61 = some (.iaload, 1)) (by decide +kernel) (by decide) g0 g1 ?_
      exact Fr.retI (by decide +kernel : zi 170 62 = some (.ireturn, 1)) (by decide +kernel) h
    · have h := h.2.2.1 g9
      refine Fr.tsw (off := 51) (q := 63) (by decide +kernel : zi 170 12 = some (.tableswitch 93 0 6 #[44, 51, 58, 65, 72, 79, 86], 44)) (by omega) (by rw [g9]; decide +kernel) (by decide +kernel) ?_
      refine Fr.aldn (c := 73) (by decide +kernel : zi 170 63 = some (.aload_n 0, 1)) rfl ⟨by omega, by omega⟩ ?_
      refine Fr.gR (c := 72) (c2 := 76) (ci := 8) (k := 5) 5 (by decide +kernel : zi 170 64 = some (.getfield 16, 3)) (by decide +kernel) (by decide +kernel) (by decide +kernel) (by decide) rfl (fun q => q (72, 5, 76) (by decide +kernel)) ?_
      refine Fr.ildn (by decide +kernel : zi 170 67 = some (.iload_n 1, 1)) rfl ?_
      obtain ⟨⟨g0, g1⟩, h⟩ := h
      refine Fr.iald (c := 75) (N := 7) (by decide +kernel : zi 170 68 = some (.iaload, 1)) (by decide +kernel) (by decide) g0 g1 ?_
      exact Fr.retI (by decide +kernel : zi 170 69 = some (.ireturn, 1)) (by decide +kernel) h
    · have h := h.2.2.2.1 g9
      refine Fr.tsw (off := 58) (q := 70) (by decide +kernel : zi 170 12 = some (.tableswitch 93 0 6 #[44, 51, 58, 65, 72, 79, 86], 44)) (by omega) (by rw [g9]; decide +kernel) (by decide +kernel) ?_
      refine Fr.aldn (c := 73) (by decide +kernel : zi 170 70 = some (.aload_n 0, 1)) rfl ⟨by omega, by omega⟩ ?_
      refine Fr.gR (c := 72) (c2 := 77) (ci := 8) (k := 6) 6 (by decide +kernel : zi 170 71 = some (.getfield 19, 3)) (by decide +kernel) (by decide +kernel) (by decide +kernel) (by decide) rfl (fun q => q (72, 6, 77) (by decide +kernel)) ?_
      refine Fr.ildn (by decide +kernel : zi 170 74 = some (.iload_n 1, 1)) rfl ?_
      obtain ⟨⟨g0, g1⟩, h⟩ := h
      refine Fr.iald (c := 76) (N := 7) (by decide +kernel : zi 170 75 = some (.iaload, 1)) (by decide +kernel) (by decide) g0 g1 ?_
      exact Fr.retI (by decide +kernel : zi 170 76 = some (.ireturn, 1)) (by decide +kernel) h
    · have h := h.2.2.2.2.1 g9
      refine Fr.tsw (off := 65) (q := 77) (by decide +kernel : zi 170 12 = some (.tableswitch 93 0 6 #[44, 51, 58, 65, 72, 79, 86], 44)) (by omega) (by rw [g9]; decide +kernel) (by decide +kernel) ?_
      refine Fr.aldn (c := 73) (by decide +kernel : zi 170 77 = some (.aload_n 0, 1)) rfl ⟨by omega, by omega⟩ ?_
      refine Fr.gR (c := 72) (c2 := 78) (ci := 8) (k := 7) 7 (by decide +kernel : zi 170 78 = some (.getfield 22, 3)) (by decide +kernel) (by decide +kernel) (by decide +kernel) (by decide) rfl (fun q => q (72, 7, 78) (by decide +kernel)) ?_
      refine Fr.ildn (by decide +kernel : zi 170 81 = some (.iload_n 1, 1)) rfl ?_
      obtain ⟨⟨g0, g1⟩, h⟩ := h
      refine Fr.iald (c := 77) (N := 7) (by decide +kernel : zi 170 82 = some (.iaload, 1)) (by decide +kernel) (by decide) g0 g1 ?_
      exact Fr.retI (by decide +kernel : zi 170 83 = some (.ireturn, 1)) (by decide +kernel) h
    · have h := h.2.2.2.2.2.1 g9
      refine Fr.tsw (off := 72) (q := 84) (by decide +kernel : zi 170 12 = some (.tableswitch 93 0 6 #[44, 51, 58, 65, 72, 79, 86], 44)) (by omega) (by rw [g9]; decide +kernel) (by decide +kernel) ?_
      refine Fr.aldn (c := 73) (by decide +kernel : zi 170 84 = some (.aload_n 0, 1)) rfl ⟨by omega, by omega⟩ ?_
      refine Fr.gR (c := 72) (c2 := 79) (ci := 8) (k := 8) 8 (by decide +kernel : zi 170 85 = some (.getfield 25, 3)) (by decide +kernel) (by decide +kernel) (by decide +kernel) (by decide) rfl (fun q => q (72, 8, 79) (by decide +kernel)) ?_
      refine Fr.ildn (by decide +kernel : zi 170 88 = some (.iload_n 1, 1)) rfl ?_
      obtain ⟨⟨g0, g1⟩, h⟩ := h
      refine Fr.iald (c := 78) (N := 7) (by decide +kernel : zi 170 89 = some (.iaload, 1)) (by decide +kernel) (by decide) g0 g1 ?_
      exact Fr.retI (by decide +kernel : zi 170 90 = some (.ireturn, 1)) (by decide +kernel) h
    · have h := h.2.2.2.2.2.2.1 g9
      refine Fr.tsw (off := 79) (q := 91) (by decide +kernel : zi 170 12 = some (.tableswitch 93 0 6 #[44, 51, 58, 65, 72, 79, 86], 44)) (by omega) (by rw [g9]; decide +kernel) (by decide +kernel) ?_
      refine Fr.aldn (c := 73) (by decide +kernel : zi 170 91 = some (.aload_n 0, 1)) rfl ⟨by omega, by omega⟩ ?_
      refine Fr.gR (c := 72) (c2 := 80) (ci := 8) (k := 9) 9 (by decide +kernel : zi 170 92 = some (.getfield 28, 3)) (by decide +kernel) (by decide +kernel) (by decide +kernel) (by decide) rfl (fun q => q (72, 9, 80) (by decide +kernel)) ?_
      refine Fr.ildn (by decide +kernel : zi 170 95 = some (.iload_n 1, 1)) rfl ?_
      obtain ⟨⟨g0, g1⟩, h⟩ := h
      refine Fr.iald (c := 79) (N := 7) (by decide +kernel : zi 170 96 = some (.iaload, 1)) (by decide +kernel) (by decide) g0 g1 ?_
      exact Fr.retI (by decide +kernel : zi 170 97 = some (.ireturn, 1)) (by decide +kernel) h
    · have h := h.2.2.2.2.2.2.2 g9
      refine Fr.tsw (off := 86) (q := 98) (by decide +kernel : zi 170 12 = some (.tableswitch 93 0 6 #[44, 51, 58, 65, 72, 79, 86], 44)) (by omega) (by rw [g9]; decide +kernel) (by decide +kernel) ?_
      refine Fr.aldn (c := 73) (by decide +kernel : zi 170 98 = some (.aload_n 0, 1)) rfl ⟨by omega, by omega⟩ ?_
      refine Fr.gR (c := 72) (c2 := 81) (ci := 8) (k := 10) 10 (by decide +kernel : zi 170 99 = some (.getfield 31, 3)) (by decide +kernel) (by decide +kernel) (by decide +kernel) (by decide) rfl (fun q => q (72, 10, 81) (by decide +kernel)) ?_
      refine Fr.ildn (by decide +kernel : zi 170 102 = some (.iload_n 1, 1)) rfl ?_
      obtain ⟨⟨g0, g1⟩, h⟩ := h
      refine Fr.iald (c := 80) (N := 7) (by decide +kernel : zi 170 103 = some (.iaload, 1)) (by decide +kernel) (by decide) g0 g1 ?_
      exact Fr.retI (by decide +kernel : zi 170 104 = some (.ireturn, 1)) (by decide +kernel) h
  · have h := h.2 g9
    refine Fr.bipush (by decide +kernel : zi 170 8 = some (.bipush (-5), 2)) (by decide) ?_
    exact Fr.retI (by decide +kernel : zi 170 10 = some (.ireturn, 1)) (by decide +kernel) h
theorem e170 {xs : Nat → Int} {L : Nat} {d : Nat} {v1 : Int} {v2 : Int} {s : Pl} {Q : Option AV → Pl → Prop} (hd : 1 ≤ d) (k : Fr xs L T0 106 (d - 1) 170 0 [some (rf 73), some (it v1), some (it v2)] [] s Q) : Ev xs L T0 106 d 170 [rf 73, it v1, it v2] s Q := Ev.of (by decide) _ rfl hd k
-- 171 X8_put
theorem f171_0 {xs : Nat → Int} {L : Nat} {d : Nat} {v1 : Int} {v2 : Int} {s : Pl} {P : Int → Pl → Prop} (h : Ev xs L T0 106 d 135 [rf 73, it v1] s (qi fun r2 s1 => ((¬ r2 = 0 → Ev xs L T0 106 d 132 [it v2, it 0, it 4] s1 (qi fun r4 s3 => ((¬ r4 = 0 → ((¬ v2 = 4 → Fr xs L T0 106 d 171 50 [some (rf 73), some (it v1), some (it v2), none] [] s3 (qi P)) ∧ (¬ (¬ v2 = 4) → (0 ≤ v1 ∧ v1 < 7) ∧ ((s3 75 v1 = 4 → Fr xs L T0 106 d 171 50 [some (rf 73), some (it v1), some (it v2), none] [] s3 (qi P)) ∧ (¬ (s3 75 v1 = 4) → Ev xs L T0 106 d 138 [rf 73, it 4] s3 (qi fun r6 s5 => ((¬ r6 = 3 → Fr xs L T0 106 d 171 50 [some (rf 73), some (it v1), some (it v2), none] [] s5 (qi P)) ∧ (¬ (¬ r6 = 3) → P (-3) s5)))))))) ∧ (¬ (¬ r4 = 0) → P (-7) s3)))) ∧ (¬ (¬ r2 = 0) → P (-5) s1)))) : Fr xs L T0 106 d 171 0 [some (rf 73), some (it v1), some (it v2), none] [] s (qi P) := by
  refine Fr.aldn (c := 73) (by decide +kernel : zi 171 0 = some (.aload_n 0, 1)) rfl ⟨by omega, by omega⟩ ?_
  refine Fr.ildn (by decide +kernel : zi 171 1 = some (.iload_n 1, 1)) rfl ?_
  refine Fr.callI (y2 := 135) (na := 2) (as := [rf 73, it v1]) (rest := []) (by decide +kernel : zi 171 2 = some (.invokevirtual 237, 3)) rfl (by decide +kernel) (by decide +kernel) rfl rfl (zok_V rfl (by decide) (by decide +kernel) (by decide +kernel) (zrecv_c (c := 72) (by decide) (by decide +kernel)) rfl (Nat.le_of_ble_eq_true rfl)) h (fun r2 s1 h => ?_)
  refine Fr.if0 (q := 11) (by decide +kernel : zi 171 5 = some (.ifCond .ne 6, 3)) (by decide +kernel) (fun g9 => ?_) (fun g9 => ?_)
  · have h := h.1 g9
    refine Fr.ildn (by decide +kernel : zi 171 11 = some (.iload_n 2, 1)) rfl ?_
    refine Fr.iconst (by decide +kernel : zi 171 12 = some (.iconst 0, 1)) (by decide) ?_
    refine Fr.iconst (by decide +kernel : zi 171 13 = some (.iconst 4, 1)) (by decide) ?_
    refine Fr.callI (y2 := 132) (na := 3) (as := [it v2, it 0, it 4]) (rest := []) (by decide +kernel : zi 171 14 = some (.invokestatic 118, 3)) rfl (by decide +kernel) (by decide +kernel) rfl rfl (zok_S rfl (by decide) (by decide +kernel) rfl (Nat.le_of_ble_eq_true rfl)) h (fun r4 s3 h => ?_)
    refine Fr.if0 (q := 23) (by decide +kernel : zi 171 17 = some (.ifCond .ne 6, 3)) (by decide +kernel) (fun g9 => ?_) (fun g9 => ?_)
    · have h := h.1 g9
      refine Fr.ildn (by decide +kernel : zi 171 23 = some (.iload_n 2, 1)) rfl ?_
      refine Fr.iconst (by decide +kernel : zi 171 24 = some (.iconst 4, 1)) (by decide) ?_
      refine Fr.if2 (q := 50) (by decide +kernel : zi 171 25 = some (.if_icmp .ne 25, 3)) (by decide +kernel) (fun g9 => ?_) (fun g9 => ?_)
      · have h := h.1 g9
        exact h
      · have h := h.2 g9
        refine Fr.aldn (c := 73) (by decide +kernel : zi 171 28 = some (.aload_n 0, 1)) rfl ⟨by omega, by omega⟩ ?_
        refine Fr.gR (c := 72) (c2 := 76) (ci := 8) (k := 5) 5 (by decide +kernel : zi 171 29 = some (.getfield 16, 3)) (by decide +kernel) (by decide +kernel) (by decide +kernel) (by decide) rfl (fun q => q (72, 5, 76) (by decide +kernel)) ?_
        refine Fr.ildn (by decide +kernel : zi 171 32 = some (.iload_n 1, 1)) rfl ?_
        obtain ⟨⟨g0, g1⟩, h⟩ := h
        refine Fr.iald (c := 75) (N := 7) (by decide +kernel : zi 171 33 = some (.iaload, 1)) (by decide +kernel) (by decide) g0 g1 ?_
        refine Fr.iconst (by decide +kernel : zi 171 34 = some (.iconst 4, 1)) (by decide) ?_
        refine Fr.if2 (q := 50) (by decide +kernel : zi 171 35 = some (.if_icmp .eq 15, 3)) (by decide +kernel) (fun g9 => ?_) (fun g9 => ?_)
        · have h := h.1 g9
          exact h
        · have h := h.2 g9
          refine Fr.aldn (c := 73) (by decide +kernel : zi 171 38 = some (.aload_n 0, 1)) rfl ⟨by omega, by omega⟩ ?_
          refine Fr.iconst (by decide +kernel : zi 171 39 = some (.iconst 4, 1)) (by decide) ?_
          refine Fr.callI (y2 := 138) (na := 2) (as := [rf 73, it 4]) (rest := []) (by decide +kernel : zi 171 40 = some (.invokevirtual 132, 3)) rfl (by decide +kernel) (by decide +kernel) rfl rfl (zok_V rfl (by decide) (by decide +kernel) (by decide +kernel) (zrecv_c (c := 72) (by decide) (by decide +kernel)) rfl (Nat.le_of_ble_eq_true rfl)) h (fun r6 s5 h => ?_)
          refine Fr.iconst (by decide +kernel : zi 171 43 = some (.iconst 3, 1)) (by decide) ?_
          refine Fr.if2 (q := 50) (by decide +kernel : zi 171 44 = some (.if_icmp .ne 6, 3)) (by decide +kernel) (fun g9 => ?_) (fun g9 => ?_)
          · have h := h.1 g9
            exact h
          · have h := h.2 g9
            refine Fr.bipush (by decide +kernel : zi 171 47 = some (.bipush (-3), 2)) (by decide) ?_
            exact Fr.retI (by decide +kernel : zi 171 49 = some (.ireturn, 1)) (by decide +kernel) h
    · have h := h.2 g9
      refine Fr.bipush (by decide +kernel : zi 171 20 = some (.bipush (-7), 2)) (by decide) ?_
      exact Fr.retI (by decide +kernel : zi 171 22 = some (.ireturn, 1)) (by decide +kernel) h
  · have h := h.2 g9
    refine Fr.bipush (by decide +kernel : zi 171 8 = some (.bipush (-5), 2)) (by decide) ?_
    exact Fr.retI (by decide +kernel : zi 171 10 = some (.ireturn, 1)) (by decide +kernel) h
theorem e171 {xs : Nat → Int} {L : Nat} {d : Nat} {v1 : Int} {v2 : Int} {s : Pl} {Q : Option AV → Pl → Prop} (hd : 1 ≤ d) (k : Fr xs L T0 106 (d - 1) 171 0 [some (rf 73), some (it v1), some (it v2), none] [] s Q) : Ev xs L T0 106 d 171 [rf 73, it v1, it v2] s Q := Ev.of (by decide) _ rfl hd k
theorem f171_50 {xs : Nat → Int} {L : Nat} {d : Nat} {v1 : Int} {v2 : Int} {s : Pl} {P : Int → Pl → Prop} (h : (0 ≤ v1 ∧ v1 < 7) ∧ (0 ≤ v1 ∧ v1 < 7) ∧ P (s 75 v1) (zup s 75 v1 v2)) : Fr xs L T0 106 d 171 50 [some (rf 73), some (it v1), some (it v2), none] [] s (qi P) := by
  refine Fr.aldn (c := 73) (by decide +kernel : zi 171 50 = some (.aload_n 0, 1)) rfl ⟨by omega, by omega⟩ ?_
  refine Fr.gR (c := 72) (c2 := 76) (ci := 8) (k := 5) 5 (by decide +kernel : zi 171 51 = some (.getfield 16, 3)) (by decide +kernel) (by decide +kernel) (by decide +kernel) (by decide) rfl (fun q => q (72, 5, 76) (by decide +kernel)) ?_
  refine Fr.ildn (by decide +kernel : zi 171 54 = some (.iload_n 1, 1)) rfl ?_
  obtain ⟨⟨g0, g1⟩, h⟩ := h
  refine Fr.iald (c := 75) (N := 7) (by decide +kernel : zi 171 55 = some (.iaload, 1)) (by decide +kernel) (by decide) g0 g1 ?_
  refine Fr.istn (lv2 := [some (rf 73), some (it v1), some (it v2), some (it (s 75 v1))]) (by decide +kernel : zi 171 56 = some (.istore_n 3, 1)) (Nat.le_of_ble_eq_true rfl) rfl ?_
  refine Fr.aldn (c := 73) (by decide +kernel : zi 171 57 = some (.aload_n 0, 1)) rfl ⟨by omega, by omega⟩ ?_
  refine Fr.gR (c := 72) (c2 := 76) (ci := 8) (k := 5) 5 (by decide +kernel : zi 171 58 = some (.getfield 16, 3)) (by decide +kernel) (by decide +kernel) (by decide +kernel) (by decide) rfl (fun q => q (72, 5, 76) (by decide +kernel)) ?_
  refine Fr.ildn (by decide +kernel : zi 171 61 = some (.iload_n 1, 1)) rfl ?_
  refine Fr.ildn (by decide +kernel : zi 171 62 = some (.iload_n 2, 1)) rfl ?_
  obtain ⟨⟨g0, g1⟩, h⟩ := h
  refine Fr.iast (c := 75) (N := 7) (by decide +kernel : zi 171 63 = some (.iastore, 1)) (by decide +kernel) (by decide) g0 g1 ?_
  refine Fr.ildn (by decide +kernel : zi 171 64 = some (.iload_n 3, 1)) rfl ?_
  exact Fr.retI (by decide +kernel : zi 171 65 = some (.ireturn, 1)) (by decide +kernel) h
-- 172 X8_mayLeave
theorem f172_0 {xs : Nat → Int} {L : Nat} {d : Nat} {v1 : Int} {v2 : Int} {s : Pl} {P : Int → Pl → Prop} (h : (0 ≤ v1 ∧ v1 < 7) ∧ ((¬ s 74 v1 = 4 → (0 ≤ v1 ∧ v1 < 7) ∧ ((¬ s 74 v1 = 1 → P 1 s) ∧ (¬ (¬ s 74 v1 = 1) → (0 ≤ v1 ∧ v1 < 7) ∧ ((¬ s 76 v1 = s 72 2 → Fr xs L T0 106 d 172 39 [some (rf 73), some (it v1), some (it v2), some (it 0)] [] s (qi P)) ∧ (¬ (¬ s 76 v1 = s 72 2) → P 1 s))))) ∧ (¬ (¬ s 74 v1 = 4) → P 0 s))) : Fr xs L T0 106 d 172 0 [some (rf 73), some (it v1), some (it v2), none] [] s (qi P) := by
  refine Fr.aldn (c := 73) (by decide +kernel : zi 172 0 = some (.aload_n 0, 1)) rfl ⟨by omega, by omega⟩ ?_
  refine Fr.gR (c := 72) (c2 := 75) (ci := 8) (k := 4) 4 (by decide +kernel : zi 172 1 = some (.getfield 13, 3)) (by decide +kernel) (by decide +kernel) (by decide +kernel) (by decide) rfl (fun q => q (72, 4, 75) (by decide +kernel)) ?_
  refine Fr.ildn (by decide +kernel : zi 172 4 = some (.iload_n 1, 1)) rfl ?_
  obtain ⟨⟨g0, g1⟩, h⟩ := h
  refine Fr.iald (c := 74) (N := 7) (by decide +kernel : zi 172 5 = some (.iaload, 1)) (by decide +kernel) (by decide) g0 g1 ?_
  refine Fr.iconst (by decide +kernel : zi 172 6 = some (.iconst 4, 1)) (by decide) ?_
  refine Fr.if2 (q := 12) (by decide +kernel : zi 172 7 = some (.if_icmp .ne 5, 3)) (by decide +kernel) (fun g9 => ?_) (fun g9 => ?_)
  · have h := h.1 g9
    refine Fr.aldn (c := 73) (by decide +kernel : zi 172 12 = some (.aload_n 0, 1)) rfl ⟨by omega, by omega⟩ ?_
    refine Fr.gR (c := 72) (c2 := 75) (ci := 8) (k := 4) 4 (by decide +kernel : zi 172 13 = some (.getfield 13, 3)) (by decide +kernel) (by decide +kernel) (by decide +kernel) (by decide) rfl (fun q => q (72, 4, 75) (by decide +kernel)) ?_
    refine Fr.ildn (by decide +kernel : zi 172 16 = some (.iload_n 1, 1)) rfl ?_
    obtain ⟨⟨g0, g1⟩, h⟩ := h
    refine Fr.iald (c := 74) (N := 7) (by decide +kernel : zi 172 17 = some (.iaload, 1)) (by decide +kernel) (by decide) g0 g1 ?_
    refine Fr.iconst (by decide +kernel : zi 172 18 = some (.iconst 1, 1)) (by decide) ?_
    refine Fr.if2 (q := 35) (by decide +kernel : zi 172 19 = some (.if_icmp .ne 16, 3)) (by decide +kernel) (fun g9 => ?_) (fun g9 => ?_)
    · have h := h.1 g9
      refine Fr.iconst (by decide +kernel : zi 172 35 = some (.iconst 1, 1)) (by decide) ?_
      exact Fr.retZ (by decide +kernel : zi 172 36 = some (.ireturn, 1)) (by decide +kernel) (by decide) h
    · have h := h.2 g9
      refine Fr.aldn (c := 73) (by decide +kernel : zi 172 22 = some (.aload_n 0, 1)) rfl ⟨by omega, by omega⟩ ?_
      refine Fr.gR (c := 72) (c2 := 77) (ci := 8) (k := 6) 6 (by decide +kernel : zi 172 23 = some (.getfield 19, 3)) (by decide +kernel) (by decide +kernel) (by decide +kernel) (by decide) rfl (fun q => q (72, 6, 77) (by decide +kernel)) ?_
      refine Fr.ildn (by decide +kernel : zi 172 26 = some (.iload_n 1, 1)) rfl ?_
      obtain ⟨⟨g0, g1⟩, h⟩ := h
      refine Fr.iald (c := 76) (N := 7) (by decide +kernel : zi 172 27 = some (.iaload, 1)) (by decide +kernel) (by decide) g0 g1 ?_
      refine Fr.aldn (c := 73) (by decide +kernel : zi 172 28 = some (.aload_n 0, 1)) rfl ⟨by omega, by omega⟩ ?_
      refine Fr.gI (c := 72) (ci := 8) (k := 2) (t := 0) 2 (by decide +kernel : zi 172 29 = some (.getfield 129, 3)) (by decide +kernel) (by decide +kernel) (by decide +kernel) (by decide) rfl ?_
      refine Fr.if2 (q := 37) (by decide +kernel : zi 172 32 = some (.if_icmp .ne 5, 3)) (by decide +kernel) (fun g9 => ?_) (fun g9 => ?_)
      · have h := h.1 g9
        refine Fr.iconst (by decide +kernel : zi 172 37 = some (.iconst 0, 1)) (by decide) ?_
        refine Fr.istn (lv2 := [some (rf 73), some (it v1), some (it v2), some (it 0)]) (by decide +kernel : zi 172 38 = some (.istore_n 3, 1)) (Nat.le_of_ble_eq_true rfl) rfl ?_
        exact h
      · have h := h.2 g9
        refine Fr.iconst (by decide +kernel : zi 172 35 = some (.iconst 1, 1)) (by decide) ?_
        exact Fr.retZ (by decide +kernel : zi 172 36 = some (.ireturn, 1)) (by decide +kernel) (by decide) h
  · have h := h.2 g9
    refine Fr.iconst (by decide +kernel : zi 172 10 = some (.iconst 0, 1)) (by decide) ?_
    exact Fr.retZ (by decide +kernel : zi 172 11 = some (.ireturn, 1)) (by decide +kernel) (by decide) h
theorem e172 {xs : Nat → Int} {L : Nat} {d : Nat} {v1 : Int} {v2 : Int} {s : Pl} {Q : Option AV → Pl → Prop} (hd : 1 ≤ d) (k : Fr xs L T0 106 (d - 1) 172 0 [some (rf 73), some (it v1), some (it v2), none] [] s Q) : Ev xs L T0 106 d 172 [rf 73, it v1, it v2] s Q := Ev.of (by decide) _ rfl hd k
theorem f172_39 {xs : Nat → Int} {L : Nat} {d : Nat} {v1 : Int} {v2 : Int} {v3 : Int} {s : Pl} {P : Int → Pl → Prop} (h : ((s 72 3 ≤ v3 → P 0 s) ∧ (¬ (s 72 3 ≤ v3) → ((v3 = v2 → Fr xs L T0 106 d 172 67 [some (rf 73), some (it v1), some (it v2), some (it v3)] [] s (qi P)) ∧ (¬ (v3 = v2) → (0 ≤ v3 ∧ v3 < 7) ∧ ((¬ s 75 v3 = s 72 2 → Fr xs L T0 106 d 172 67 [some (rf 73), some (it v1), some (it v2), some (it v3)] [] s (qi P)) ∧ (¬ (¬ s 75 v3 = s 72 2) → P 1 s))))))) : Fr xs L T0 106 d 172 39 [some (rf 73), some (it v1), some (it v2), some (it v3)] [] s (qi P) := by
  refine Fr.ildn (by decide +kernel : zi 172 39 = some (.iload_n 3, 1)) rfl ?_
  refine Fr.aldn (c := 73) (by decide +kernel : zi 172 40 = some (.aload_n 0, 1)) rfl ⟨by omega, by omega⟩ ?_
  refine Fr.gI (c := 72) (ci := 8) (k := 3) (t := 0) 3 (by decide +kernel : zi 172 41 = some (.getfield 122, 3)) (by decide +kernel) (by decide +kernel) (by decide +kernel) (by decide) rfl ?_
  refine Fr.if2 (q := 73) (by decide +kernel : zi 172 44 = some (.if_icmp .ge 29, 3)) (by decide +kernel) (fun g9 => ?_) (fun g9 => ?_)
  · have h := h.1 g9
    refine Fr.iconst (by decide +kernel : zi 172 73 = some (.iconst 0, 1)) (by decide) ?_
    exact Fr.retZ (by decide +kernel : zi 172 74 = some (.ireturn, 1)) (by decide +kernel) (by decide) h
  · have h := h.2 g9
    refine Fr.ildn (by decide +kernel : zi 172 47 = some (.iload_n 3, 1)) rfl ?_
    refine Fr.ildn (by decide +kernel : zi 172 48 = some (.iload_n 2, 1)) rfl ?_
    refine Fr.if2 (q := 67) (by decide +kernel : zi 172 49 = some (.if_icmp .eq 18, 3)) (by decide +kernel) (fun g9 => ?_) (fun g9 => ?_)
    · have h := h.1 g9
      exact h
    · have h := h.2 g9
      refine Fr.aldn (c := 73) (by decide +kernel : zi 172 52 = some (.aload_n 0, 1)) rfl ⟨by omega, by omega⟩ ?_
      refine Fr.gR (c := 72) (c2 := 76) (ci := 8) (k := 5) 5 (by decide +kernel : zi 172 53 = some (.getfield 16, 3)) (by decide +kernel) (by decide +kernel) (by decide +kernel) (by decide) rfl (fun q => q (72, 5, 76) (by decide +kernel)) ?_
      refine Fr.ildn (by decide +kernel : zi 172 56 = some (.iload_n 3, 1)) rfl ?_
      obtain ⟨⟨g0, g1⟩, h⟩ := h
      refine Fr.iald (c := 75) (N := 7) (by decide +kernel : zi 172 57 = some (.iaload, 1)) (by decide +kernel) (by decide) g0 g1 ?_
      refine Fr.aldn (c := 73) (by decide +kernel : zi 172 58 = some (.aload_n 0, 1)) rfl ⟨by omega, by omega⟩ ?_
      refine Fr.gI (c := 72) (ci := 8) (k := 2) (t := 0) 2 (by decide +kernel : zi 172 59 = some (.getfield 129, 3)) (by decide +kernel) (by decide +kernel) (by decide +kernel) (by decide) rfl ?_
      refine Fr.if2 (q := 67) (by decide +kernel : zi 172 62 = some (.if_icmp .ne 5, 3)) (by decide +kernel) (fun g9 => ?_) (fun g9 => ?_)
      · have h := h.1 g9
        exact h
      · have h := h.2 g9
        refine Fr.iconst (by decide +kernel : zi 172 65 = some (.iconst 1, 1)) (by decide) ?_
        exact Fr.retZ (by decide +kernel : zi 172 66 = some (.ireturn, 1)) (by decide +kernel) (by decide) h
theorem f172_67 {xs : Nat → Int} {L : Nat} {d : Nat} {v1 : Int} {v2 : Int} {v3 : Int} {s : Pl} {P : Int → Pl → Prop} (h : Fr xs L T0 106 d 172 39 [some (rf 73), some (it v1), some (it v2), some (it (zw (v3 + 1)))] [] s (qi P)) : Fr xs L T0 106 d 172 67 [some (rf 73), some (it v1), some (it v2), some (it v3)] [] s (qi P) := by
  refine Fr.iinc (lv2 := [some (rf 73), some (it v1), some (it v2), some (it (zw (v3 + 1)))]) (by decide +kernel : zi 172 67 = some (.iinc 3 1, 3)) (Nat.le_of_ble_eq_true rfl) rfl rfl ?_
  refine Fr.goto (q := 39) (by decide +kernel : zi 172 70 = some (.goto (-31), 3)) (by decide +kernel) ?_
  exact h
-- 173 X8_mayBoard
theorem f173_0 {xs : Nat → Int} {L : Nat} {d : Nat} {v1 : Int} {v2 : Int} {s : Pl} {P : Int → Pl → Prop} (h : Fr xs L T0 106 d 173 5 [some (rf 73), some (it v1), some (it v2), some (it 0), some (it 0)] [] s (qi P)) : Fr xs L T0 106 d 173 0 [some (rf 73), some (it v1), some (it v2), none, none] [] s (qi P) := by
  refine Fr.iconst (by decide +kernel : zi 173 0 = some (.iconst 0, 1)) (by decide) ?_
  refine Fr.istn (lv2 := [some (rf 73), some (it v1), some (it v2), some (it 0), none]) (by decide +kernel : zi 173 1 = some (.istore_n 3, 1)) (Nat.le_of_ble_eq_true rfl) rfl ?_
  refine Fr.iconst (by decide +kernel : zi 173 2 = some (.iconst 0, 1)) (by decide) ?_
  refine Fr.ist (lv2 := [some (rf 73), some (it v1), some (it v2), some (it 0), some (it 0)]) (by decide +kernel : zi 173 3 = some (.istore 4, 2)) (Nat.le_of_ble_eq_true rfl) rfl ?_
  exact h
theorem e173 {xs : Nat → Int} {L : Nat} {d : Nat} {v1 : Int} {v2 : Int} {s : Pl} {Q : Option AV → Pl → Prop} (hd : 1 ≤ d) (k : Fr xs L T0 106 (d - 1) 173 0 [some (rf 73), some (it v1), some (it v2), none, none] [] s Q) : Ev xs L T0 106 d 173 [rf 73, it v1, it v2] s Q := Ev.of (by decide) _ rfl hd k
theorem f173_5 {xs : Nat → Int} {L : Nat} {d : Nat} {v1 : Int} {v2 : Int} {v3 : Int} {v4 : Int} {s : Pl} {P : Int → Pl → Prop} (h : ((s 72 3 ≤ v4 → (0 ≤ v1 ∧ v1 < 7) ∧ ((¬ s 74 v1 = 5 → Fr xs L T0 106 d 173 84 [some (rf 73), some (it v1), some (it v2), some (it v3), some (it v4)] [] s (qi P)) ∧ (¬ (¬ s 74 v1 = 5) → ((v3 = 0 → P 0 s) ∧ (¬ (v3 = 0) → Fr xs L T0 106 d 173 84 [some (rf 73), some (it v1), some (it v2), some (it v3), some (it v4)] [] s (qi P)))))) ∧ (¬ (s 72 3 ≤ v4) → (0 ≤ v4 ∧ v4 < 7) ∧ ((¬ s 75 v4 = 4 → Fr xs L T0 106 d 173 64 [some (rf 73), some (it v1), some (it v2), some (it v3), some (it v4)] [] s (qi P)) ∧ (¬ (¬ s 75 v4 = 4) → ((¬ v4 = v2 → (0 ≤ v1 ∧ v1 < 7) ∧ ((¬ zand (zshr (s 80 v1) v4) 1 = 1 → (0 ≤ v1 ∧ v1 < 7) ∧ ((¬ v4 = s 79 v1 → Fr xs L T0 106 d 173 64 [some (rf 73), some (it v1), some (it v2), some (it v3), some (it v4)] [] s (qi P)) ∧ (¬ (¬ v4 = s 79 v1) → Fr xs L T0 106 d 173 64 [some (rf 73), some (it v1), some (it v2), some (it 1), some (it v4)] [] s (qi P)))) ∧ (¬ (¬ zand (zshr (s 80 v1) v4) 1 = 1) → P 0 s))) ∧ (¬ (¬ v4 = v2) → Fr xs L T0 106 d 173 64 [some (rf 73), some (it v1), some (it v2), some (it v3), some (it v4)] [] s (qi P)))))))) : Fr xs L T0 106 d 173 5 [some (rf 73), some (it v1), some (it v2), some (it v3), some (it v4)] [] s (qi P) := by
  refine Fr.ild (by decide +kernel : zi 173 5 = some (.iload 4, 2)) rfl ?_
  refine Fr.aldn (c := 73) (by decide +kernel : zi 173 7 = some (.aload_n 0, 1)) rfl ⟨by omega, by omega⟩ ?_
  refine Fr.gI (c := 72) (ci := 8) (k := 3) (t := 0) 3 (by decide +kernel : zi 173 8 = some (.getfield 122, 3)) (by decide +kernel) (by decide +kernel) (by decide +kernel) (by decide) rfl ?_
  refine Fr.if2 (q := 70) (by decide +kernel : zi 173 11 = some (.if_icmp .ge 59, 3)) (by decide +kernel) (fun g9 => ?_) (fun g9 => ?_)
  · have h := h.1 g9
    refine Fr.aldn (c := 73) (by decide +kernel : zi 173 70 = some (.aload_n 0, 1)) rfl ⟨by omega, by omega⟩ ?_
    refine Fr.gR (c := 72) (c2 := 75) (ci := 8) (k := 4) 4 (by decide +kernel : zi 173 71 = some (.getfield 13, 3)) (by decide +kernel) (by decide +kernel) (by decide +kernel) (by decide) rfl (fun q => q (72, 4, 75) (by decide +kernel)) ?_
    refine Fr.ildn (by decide +kernel : zi 173 74 = some (.iload_n 1, 1)) rfl ?_
    obtain ⟨⟨g0, g1⟩, h⟩ := h
    refine Fr.iald (c := 74) (N := 7) (by decide +kernel : zi 173 75 = some (.iaload, 1)) (by decide +kernel) (by decide) g0 g1 ?_
    refine Fr.iconst (by decide +kernel : zi 173 76 = some (.iconst 5, 1)) (by decide) ?_
    refine Fr.if2 (q := 84) (by decide +kernel : zi 173 77 = some (.if_icmp .ne 7, 3)) (by decide +kernel) (fun g9 => ?_) (fun g9 => ?_)
    · have h := h.1 g9
      exact h
    · have h := h.2 g9
      refine Fr.ildn (by decide +kernel : zi 173 80 = some (.iload_n 3, 1)) rfl ?_
      refine Fr.if0 (q := 88) (by decide +kernel : zi 173 81 = some (.ifCond .eq 7, 3)) (by decide +kernel) (fun g9 => ?_) (fun g9 => ?_)
      · have h := h.1 g9
        refine Fr.iconst (by decide +kernel : zi 173 88 = some (.iconst 0, 1)) (by decide) ?_
        exact Fr.retZ (by decide +kernel : zi 173 89 = some (.ireturn, 1)) (by decide +kernel) (by decide) h
      · have h := h.2 g9
        exact h
  · have h := h.2 g9
    refine Fr.aldn (c := 73) (by decide +kernel : zi 173 14 = some (.aload_n 0, 1)) rfl ⟨by omega, by omega⟩ ?_
    refine Fr.gR (c := 72) (c2 := 76) (ci := 8) (k := 5) 5 (by decide +kernel : zi 173 15 = some (.getfield 16, 3)) (by decide +kernel) (by decide +kernel) (by decide +kernel) (by decide) rfl (fun q => q (72, 5, 76) (by decide +kernel)) ?_
    refine Fr.ild (by decide +kernel : zi 173 18 = some (.iload 4, 2)) rfl ?_
    obtain ⟨⟨g0, g1⟩, h⟩ := h
    refine Fr.iald (c := 75) (N := 7) (by decide +kernel : zi 173 20 = some (.iaload, 1)) (by decide +kernel) (by decide) g0 g1 ?_
    refine Fr.iconst (by decide +kernel : zi 173 21 = some (.iconst 4, 1)) (by decide) ?_
    refine Fr.if2 (q := 64) (by decide +kernel : zi 173 22 = some (.if_icmp .ne 42, 3)) (by decide +kernel) (fun g9 => ?_) (fun g9 => ?_)
    · have h := h.1 g9
      exact h
    · have h := h.2 g9
      refine Fr.ild (by decide +kernel : zi 173 25 = some (.iload 4, 2)) rfl ?_
      refine Fr.ildn (by decide +kernel : zi 173 27 = some (.iload_n 2, 1)) rfl ?_
      refine Fr.if2 (q := 34) (by decide +kernel : zi 173 28 = some (.if_icmp .ne 6, 3)) (by decide +kernel) (fun g9 => ?_) (fun g9 => ?_)
      · have h := h.1 g9
        refine Fr.aldn (c := 73) (by decide +kernel : zi 173 34 = some (.aload_n 0, 1)) rfl ⟨by omega, by omega⟩ ?_
        refine Fr.gR (c := 72) (c2 := 81) (ci := 8) (k := 10) 10 (by decide +kernel : zi 173 35 = some (.getfield 31, 3)) (by decide +kernel) (by decide +kernel) (by decide +kernel) (by decide) rfl (fun q => q (72, 10, 81) (by decide +kernel)) ?_
        refine Fr.ildn (by decide +kernel : zi 173 38 = some (.iload_n 1, 1)) rfl ?_
        obtain ⟨⟨g0, g1⟩, h⟩ := h
        refine Fr.iald (c := 80) (N := 7) (by decide +kernel : zi 173 39 = some (.iaload, 1)) (by decide +kernel) (by decide) g0 g1 ?_
        refine Fr.ild (by decide +kernel : zi 173 40 = some (.iload 4, 2)) rfl ?_
        refine Fr.ishr (by decide +kernel : zi 173 42 = some (.ishr, 1)) ?_
        refine Fr.iconst (by decide +kernel : zi 173 43 = some (.iconst 1, 1)) (by decide) ?_
        refine Fr.iand (by decide +kernel : zi 173 44 = some (.iand, 1)) ?_
        refine Fr.iconst (by decide +kernel : zi 173 45 = some (.iconst 1, 1)) (by decide) ?_
        refine Fr.if2 (q := 51) (by decide +kernel : zi 173 46 = some (.if_icmp .ne 5, 3)) (by decide +kernel) (fun g9 => ?_) (fun g9 => ?_)
        · have h := h.1 g9
          refine Fr.ild (by decide +kernel : zi 173 51 = some (.iload 4, 2)) rfl ?_
          refine Fr.aldn (c := 73) (by decide +kernel : zi 173 53 = some (.aload_n 0, 1)) rfl ⟨by omega, by omega⟩ ?_
          refine Fr.gR (c := 72) (c2 := 80) (ci := 8) (k := 9) 9 (by decide +kernel : zi 173 54 = some (.getfield 28, 3)) (by decide +kernel) (by decide +kernel) (by decide +kernel) (by decide) rfl (fun q => q (72, 9, 80) (by decide +kernel)) ?_
          refine Fr.ildn (by decide +kernel : zi 173 57 = some (.iload_n 1, 1)) rfl ?_
          obtain ⟨⟨g0, g1⟩, h⟩ := h
          refine Fr.iald (c := 79) (N := 7) (by decide +kernel : zi 173 58 = some (.iaload, 1)) (by decide +kernel) (by decide) g0 g1 ?_
          refine Fr.if2 (q := 64) (by decide +kernel : zi 173 59 = some (.if_icmp .ne 5, 3)) (by decide +kernel) (fun g9 => ?_) (fun g9 => ?_)
          · have h := h.1 g9
            exact h
          · have h := h.2 g9
            refine Fr.iconst (by decide +kernel : zi 173 62 = some (.iconst 1, 1)) (by decide) ?_
            refine Fr.istn (lv2 := [some (rf 73), some (it v1), some (it v2), some (it 1), some (it v4)]) (by decide +kernel : zi 173 63 = some (.istore_n 3, 1)) (Nat.le_of_ble_eq_true rfl) rfl ?_
            exact h
        · have h := h.2 g9
          refine Fr.iconst (by decide +kernel : zi 173 49 = some (.iconst 0, 1)) (by decide) ?_
          exact Fr.retZ (by decide +kernel : zi 173 50 = some (.ireturn, 1)) (by decide +kernel) (by decide) h
      · have h := h.2 g9
        refine Fr.goto (q := 64) (by decide +kernel : zi 173 31 = some (.goto 33, 3)) (by decide +kernel) ?_
        exact h
theorem f173_64 {xs : Nat → Int} {L : Nat} {d : Nat} {v1 : Int} {v2 : Int} {v3 : Int} {v4 : Int} {s : Pl} {P : Int → Pl → Prop} (h : Fr xs L T0 106 d 173 5 [some (rf 73), some (it v1), some (it v2), some (it v3), some (it (zw (v4 + 1)))] [] s (qi P)) : Fr xs L T0 106 d 173 64 [some (rf 73), some (it v1), some (it v2), some (it v3), some (it v4)] [] s (qi P) := by
  refine Fr.iinc (lv2 := [some (rf 73), some (it v1), some (it v2), some (it v3), some (it (zw (v4 + 1)))]) (by decide +kernel : zi 173 64 = some (.iinc 4 1, 3)) (Nat.le_of_ble_eq_true rfl) rfl rfl ?_
  refine Fr.goto (q := 5) (by decide +kernel : zi 173 67 = some (.goto (-62), 3)) (by decide +kernel) ?_
  exact h
theorem f173_84 {xs : Nat → Int} {L : Nat} {d : Nat} {v1 : Int} {v2 : Int} {v3 : Int} {v4 : Int} {s : Pl} {P : Int → Pl → Prop} (h : P 1 s) : Fr xs L T0 106 d 173 84 [some (rf 73), some (it v1), some (it v2), some (it v3), some (it v4)] [] s (qi P) := by
  refine Fr.iconst (by decide +kernel : zi 173 84 = some (.iconst 1, 1)) (by decide) ?_
  refine Fr.goto (q := 89) (by decide +kernel : zi 173 85 = some (.goto 4, 3)) (by decide +kernel) ?_
  exact Fr.retZ (by decide +kernel : zi 173 89 = some (.ireturn, 1)) (by decide +kernel) (by decide) h
-- 174 X8_allStand
theorem f174_0 {xs : Nat → Int} {L : Nat} {d : Nat} {v1 : Int} {s : Pl} {P : Int → Pl → Prop} (h : Ev xs L T0 106 d 138 [rf 73, it v1] s (qi fun r2 s1 => ((¬ r2 = 1 → Fr xs L T0 106 d 174 17 [some (rf 73), some (it v1)] [] s1 (qi P)) ∧ (¬ (¬ r2 = 1) → Ev xs L T0 106 d 175 [rf 73, it v1] s1 (qi fun r4 s3 => ((¬ r4 = 0 → P 0 s3) ∧ (¬ (¬ r4 = 0) → Fr xs L T0 106 d 174 17 [some (rf 73), some (it v1)] [] s3 (qi P)))))))) : Fr xs L T0 106 d 174 0 [some (rf 73), some (it v1)] [] s (qi P) := by
  refine Fr.aldn (c := 73) (by decide +kernel : zi 174 0 = some (.aload_n 0, 1)) rfl ⟨by omega, by omega⟩ ?_
  refine Fr.ildn (by decide +kernel : zi 174 1 = some (.iload_n 1, 1)) rfl ?_
  refine Fr.callI (y2 := 138) (na := 2) (as := [rf 73, it v1]) (rest := []) (by decide +kernel : zi 174 2 = some (.invokevirtual 132, 3)) rfl (by decide +kernel) (by decide +kernel) rfl rfl (zok_V rfl (by decide) (by decide +kernel) (by decide +kernel) (zrecv_c (c := 72) (by decide) (by decide +kernel)) rfl (Nat.le_of_ble_eq_true rfl)) h (fun r2 s1 h => ?_)
  refine Fr.iconst (by decide +kernel : zi 174 5 = some (.iconst 1, 1)) (by decide) ?_
  refine Fr.if2 (q := 17) (by decide +kernel : zi 174 6 = some (.if_icmp .ne 11, 3)) (by decide +kernel) (fun g9 => ?_) (fun g9 => ?_)
  · have h := h.1 g9
    exact h
  · have h := h.2 g9
    refine Fr.aldn (c := 73) (by decide +kernel : zi 174 9 = some (.aload_n 0, 1)) rfl ⟨by omega, by omega⟩ ?_
    refine Fr.ildn (by decide +kernel : zi 174 10 = some (.iload_n 1, 1)) rfl ?_
    refine Fr.callI (y2 := 175) (na := 2) (as := [rf 73, it v1]) (rest := []) (by decide +kernel : zi 174 11 = some (.invokevirtual 250, 3)) rfl (by decide +kernel) (by decide +kernel) rfl rfl (zok_V rfl (by decide) (by decide +kernel) (by decide +kernel) (zrecv_c (c := 72) (by decide) (by decide +kernel)) rfl (Nat.le_of_ble_eq_true rfl)) h (fun r4 s3 h => ?_)
    refine Fr.if0 (q := 21) (by decide +kernel : zi 174 14 = some (.ifCond .ne 7, 3)) (by decide +kernel) (fun g9 => ?_) (fun g9 => ?_)
    · have h := h.1 g9
      refine Fr.iconst (by decide +kernel : zi 174 21 = some (.iconst 0, 1)) (by decide) ?_
      exact Fr.retZ (by decide +kernel : zi 174 22 = some (.ireturn, 1)) (by decide +kernel) (by decide) h
    · have h := h.2 g9
      exact h
theorem e174 {xs : Nat → Int} {L : Nat} {d : Nat} {v1 : Int} {s : Pl} {Q : Option AV → Pl → Prop} (hd : 1 ≤ d) (k : Fr xs L T0 106 (d - 1) 174 0 [some (rf 73), some (it v1)] [] s Q) : Ev xs L T0 106 d 174 [rf 73, it v1] s Q := Ev.of (by decide) _ rfl hd k
theorem f174_17 {xs : Nat → Int} {L : Nat} {d : Nat} {v1 : Int} {s : Pl} {P : Int → Pl → Prop} (h : P 1 s) : Fr xs L T0 106 d 174 17 [some (rf 73), some (it v1)] [] s (qi P) := by
  refine Fr.iconst (by decide +kernel : zi 174 17 = some (.iconst 1, 1)) (by decide) ?_
  refine Fr.goto (q := 22) (by decide +kernel : zi 174 18 = some (.goto 4, 3)) (by decide +kernel) ?_
  exact Fr.retZ (by decide +kernel : zi 174 22 = some (.ireturn, 1)) (by decide +kernel) (by decide) h
-- 175 X8_isChildAt
theorem f175_0 {xs : Nat → Int} {L : Nat} {d : Nat} {v1 : Int} {s : Pl} {P : Int → Pl → Prop} (h : Fr xs L T0 106 d 175 2 [some (rf 73), some (it v1), some (it 0)] [] s (qi P)) : Fr xs L T0 106 d 175 0 [some (rf 73), some (it v1), none] [] s (qi P) := by
  refine Fr.iconst (by decide +kernel : zi 175 0 = some (.iconst 0, 1)) (by decide) ?_
  refine Fr.istn (lv2 := [some (rf 73), some (it v1), some (it 0)]) (by decide +kernel : zi 175 1 = some (.istore_n 2, 1)) (Nat.le_of_ble_eq_true rfl) rfl ?_
  exact h
theorem e175 {xs : Nat → Int} {L : Nat} {d : Nat} {v1 : Int} {s : Pl} {Q : Option AV → Pl → Prop} (hd : 1 ≤ d) (k : Fr xs L T0 106 (d - 1) 175 0 [some (rf 73), some (it v1), none] [] s Q) : Ev xs L T0 106 d 175 [rf 73, it v1] s Q := Ev.of (by decide) _ rfl hd k
theorem f175_2 {xs : Nat → Int} {L : Nat} {d : Nat} {v1 : Int} {v2 : Int} {s : Pl} {P : Int → Pl → Prop} (h : ((s 72 3 ≤ v2 → P 0 s) ∧ (¬ (s 72 3 ≤ v2) → (0 ≤ v2 ∧ v2 < 7) ∧ ((¬ s 75 v2 = v1 → Fr xs L T0 106 d 175 42 [some (rf 73), some (it v1), some (it v2)] [] s (qi P)) ∧ (¬ (¬ s 75 v2 = v1) → (0 ≤ v2 ∧ v2 < 7) ∧ ((s 74 v2 = 2 → P 1 s) ∧ (¬ (s 74 v2 = 2) → (0 ≤ v2 ∧ v2 < 7) ∧ ((¬ s 74 v2 = 5 → Fr xs L T0 106 d 175 42 [some (rf 73), some (it v1), some (it v2)] [] s (qi P)) ∧ (¬ (¬ s 74 v2 = 5) → P 1 s))))))))) : Fr xs L T0 106 d 175 2 [some (rf 73), some (it v1), some (it v2)] [] s (qi P) := by
  refine Fr.ildn (by decide +kernel : zi 175 2 = some (.iload_n 2, 1)) rfl ?_
  refine Fr.aldn (c := 73) (by decide +kernel : zi 175 3 = some (.aload_n 0, 1)) rfl ⟨by omega, by omega⟩ ?_
  refine Fr.gI (c := 72) (ci := 8) (k := 3) (t := 0) 3 (by decide +kernel : zi 175 4 = some (.getfield 122, 3)) (by decide +kernel) (by decide +kernel) (by decide +kernel) (by decide) rfl ?_
  refine Fr.if2 (q := 48) (by decide +kernel : zi 175 7 = some (.if_icmp .ge 41, 3)) (by decide +kernel) (fun g9 => ?_) (fun g9 => ?_)
  · have h := h.1 g9
    refine Fr.iconst (by decide +kernel : zi 175 48 = some (.iconst 0, 1)) (by decide) ?_
    exact Fr.retZ (by decide +kernel : zi 175 49 = some (.ireturn, 1)) (by decide +kernel) (by decide) h
  · have h := h.2 g9
    refine Fr.aldn (c := 73) (by decide +kernel : zi 175 10 = some (.aload_n 0, 1)) rfl ⟨by omega, by omega⟩ ?_
    refine Fr.gR (c := 72) (c2 := 76) (ci := 8) (k := 5) 5 (by decide +kernel : zi 175 11 = some (.getfield 16, 3)) (by decide +kernel) (by decide +kernel) (by decide +kernel) (by decide) rfl (fun q => q (72, 5, 76) (by decide +kernel)) ?_
    refine Fr.ildn (by decide +kernel : zi 175 14 = some (.iload_n 2, 1)) rfl ?_
    obtain ⟨⟨g0, g1⟩, h⟩ := h
    refine Fr.iald (c := 75) (N := 7) (by decide +kernel : zi 175 15 = some (.iaload, 1)) (by decide +kernel) (by decide) g0 g1 ?_
    refine Fr.ildn (by decide +kernel : zi 175 16 = some (.iload_n 1, 1)) rfl ?_
    refine Fr.if2 (q := 42) (by decide +kernel : zi 175 17 = some (.if_icmp .ne 25, 3)) (by decide +kernel) (fun g9 => ?_) (fun g9 => ?_)
    · have h := h.1 g9
      exact h
    · have h := h.2 g9
      refine Fr.aldn (c := 73) (by decide +kernel : zi 175 20 = some (.aload_n 0, 1)) rfl ⟨by omega, by omega⟩ ?_
      refine Fr.gR (c := 72) (c2 := 75) (ci := 8) (k := 4) 4 (by decide +kernel : zi 175 21 = some (.getfield 13, 3)) (by decide +kernel) (by decide +kernel) (by decide +kernel) (by decide) rfl (fun q => q (72, 4, 75) (by decide +kernel)) ?_
      refine Fr.ildn (by decide +kernel : zi 175 24 = some (.iload_n 2, 1)) rfl ?_
      obtain ⟨⟨g0, g1⟩, h⟩ := h
      refine Fr.iald (c := 74) (N := 7) (by decide +kernel : zi 175 25 = some (.iaload, 1)) (by decide +kernel) (by decide) g0 g1 ?_
      refine Fr.iconst (by decide +kernel : zi 175 26 = some (.iconst 2, 1)) (by decide) ?_
      refine Fr.if2 (q := 40) (by decide +kernel : zi 175 27 = some (.if_icmp .eq 13, 3)) (by decide +kernel) (fun g9 => ?_) (fun g9 => ?_)
      · have h := h.1 g9
        refine Fr.iconst (by decide +kernel : zi 175 40 = some (.iconst 1, 1)) (by decide) ?_
        exact Fr.retZ (by decide +kernel : zi 175 41 = some (.ireturn, 1)) (by decide +kernel) (by decide) h
      · have h := h.2 g9
        refine Fr.aldn (c := 73) (by decide +kernel : zi 175 30 = some (.aload_n 0, 1)) rfl ⟨by omega, by omega⟩ ?_
        refine Fr.gR (c := 72) (c2 := 75) (ci := 8) (k := 4) 4 (by decide +kernel : zi 175 31 = some (.getfield 13, 3)) (by decide +kernel) (by decide +kernel) (by decide +kernel) (by decide) rfl (fun q => q (72, 4, 75) (by decide +kernel)) ?_
        refine Fr.ildn (by decide +kernel : zi 175 34 = some (.iload_n 2, 1)) rfl ?_
        obtain ⟨⟨g0, g1⟩, h⟩ := h
        refine Fr.iald (c := 74) (N := 7) (by decide +kernel : zi 175 35 = some (.iaload, 1)) (by decide +kernel) (by decide) g0 g1 ?_
        refine Fr.iconst (by decide +kernel : zi 175 36 = some (.iconst 5, 1)) (by decide) ?_
        refine Fr.if2 (q := 42) (by decide +kernel : zi 175 37 = some (.if_icmp .ne 5, 3)) (by decide +kernel) (fun g9 => ?_) (fun g9 => ?_)
        · have h := h.1 g9
          exact h
        · have h := h.2 g9
          refine Fr.iconst (by decide +kernel : zi 175 40 = some (.iconst 1, 1)) (by decide) ?_
          exact Fr.retZ (by decide +kernel : zi 175 41 = some (.ireturn, 1)) (by decide +kernel) (by decide) h
theorem f175_42 {xs : Nat → Int} {L : Nat} {d : Nat} {v1 : Int} {v2 : Int} {s : Pl} {P : Int → Pl → Prop} (h : Fr xs L T0 106 d 175 2 [some (rf 73), some (it v1), some (it (zw (v2 + 1)))] [] s (qi P)) : Fr xs L T0 106 d 175 42 [some (rf 73), some (it v1), some (it v2)] [] s (qi P) := by
  refine Fr.iinc (lv2 := [some (rf 73), some (it v1), some (it (zw (v2 + 1)))]) (by decide +kernel : zi 175 42 = some (.iinc 2 1, 3)) (Nat.le_of_ble_eq_true rfl) rfl rfl ?_
  refine Fr.goto (q := 2) (by decide +kernel : zi 175 45 = some (.goto (-43), 3)) (by decide +kernel) ?_
  exact h
-- 176 X8_maySwap
theorem f176_0 {xs : Nat → Int} {L : Nat} {d : Nat} {v1 : Int} {v2 : Int} {s : Pl} {P : Int → Pl → Prop} (h : Ev xs L T0 106 d 135 [rf 73, it v1] s (qi fun r2 s1 => ((r2 = 0 → P 0 s1) ∧ (¬ (r2 = 0) → Ev xs L T0 106 d 135 [rf 73, it v2] s1 (qi fun r4 s3 => ((r4 = 0 → P 0 s3) ∧ (¬ (r4 = 0) → (0 ≤ v1 ∧ v1 < 7) ∧ ((¬ s3 75 v1 = 4 → P 0 s3) ∧ (¬ (¬ s3 75 v1 = 4) → (0 ≤ v2 ∧ v2 < 7) ∧ ((s3 75 v2 = s3 72 2 → Ev xs L T0 106 d 164 [rf 73, it v1, it v2, it (s3 72 2)] s3 (qi fun r6 s5 => ((r6 = 0 → P 0 s5) ∧ (¬ (r6 = 0) → Ev xs L T0 106 d 172 [rf 73, it v1, it v2] s5 (qi fun r8 s7 => ((r8 = 0 → P 0 s7) ∧ (¬ (r8 = 0) → Ev xs L T0 106 d 173 [rf 73, it v2, it v1] s7 (qi fun r10 s9 => ((¬ r10 = 0 → Ev xs L T0 106 d 177 [rf 73, it v1, it v2] s9 (qv fun s11 => Ev xs L T0 106 d 174 [rf 73, it (s11 72 2)] s11 (qi fun r13 s12 => Ev xs L T0 106 d 177 [rf 73, it v2, it v1] s12 (qv fun s14 => ((r13 = 0 ∨ r13 = 1) ∧ P r13 s14))))) ∧ (¬ (¬ r10 = 0) → P 0 s9)))))))))) ∧ (¬ (s3 75 v2 = s3 72 2) → P 0 s3))))))))))) : Fr xs L T0 106 d 176 0 [some (rf 73), some (it v1), some (it v2), none] [] s (qi P) := by
  refine Fr.aldn (c := 73) (by decide +kernel : zi 176 0 = some (.aload_n 0, 1)) rfl ⟨by omega, by omega⟩ ?_
  refine Fr.ildn (by decide +kernel : zi 176 1 = some (.iload_n 1, 1)) rfl ?_
  refine Fr.callI (y2 := 135) (na := 2) (as := [rf 73, it v1]) (rest := []) (by decide +kernel : zi 176 2 = some (.invokevirtual 237, 3)) rfl (by decide +kernel) (by decide +kernel) rfl rfl (zok_V rfl (by decide) (by decide +kernel) (by decide +kernel) (zrecv_c (c := 72) (by decide) (by decide +kernel)) rfl (Nat.le_of_ble_eq_true rfl)) h (fun r2 s1 h => ?_)
  refine Fr.if0 (q := 39) (by decide +kernel : zi 176 5 = some (.ifCond .eq 34, 3)) (by decide +kernel) (fun g9 => ?_) (fun g9 => ?_)
  · have h := h.1 g9
    refine Fr.iconst (by decide +kernel : zi 176 39 = some (.iconst 0, 1)) (by decide) ?_
    exact Fr.retZ (by decide +kernel : zi 176 40 = some (.ireturn, 1)) (by decide +kernel) (by decide) h
  · have h := h.2 g9
    refine Fr.aldn (c := 73) (by decide +kernel : zi 176 8 = some (.aload_n 0, 1)) rfl ⟨by omega, by omega⟩ ?_
    refine Fr.ildn (by decide +kernel : zi 176 9 = some (.iload_n 2, 1)) rfl ?_
    refine Fr.callI (y2 := 135) (na := 2) (as := [rf 73, it v2]) (rest := []) (by decide +kernel : zi 176 10 = some (.invokevirtual 237, 3)) rfl (by decide +kernel) (by decide +kernel) rfl rfl (zok_V rfl (by decide) (by decide +kernel) (by decide +kernel) (zrecv_c (c := 72) (by decide) (by decide +kernel)) rfl (Nat.le_of_ble_eq_true rfl)) h (fun r4 s3 h => ?_)
    refine Fr.if0 (q := 39) (by decide +kernel : zi 176 13 = some (.ifCond .eq 26, 3)) (by decide +kernel) (fun g9 => ?_) (fun g9 => ?_)
    · have h := h.1 g9
      refine Fr.iconst (by decide +kernel : zi 176 39 = some (.iconst 0, 1)) (by decide) ?_
      exact Fr.retZ (by decide +kernel : zi 176 40 = some (.ireturn, 1)) (by decide +kernel) (by decide) h
    · have h := h.2 g9
      refine Fr.aldn (c := 73) (by decide +kernel : zi 176 16 = some (.aload_n 0, 1)) rfl ⟨by omega, by omega⟩ ?_
      refine Fr.gR (c := 72) (c2 := 76) (ci := 8) (k := 5) 5 (by decide +kernel : zi 176 17 = some (.getfield 16, 3)) (by decide +kernel) (by decide +kernel) (by decide +kernel) (by decide) rfl (fun q => q (72, 5, 76) (by decide +kernel)) ?_
      refine Fr.ildn (by decide +kernel : zi 176 20 = some (.iload_n 1, 1)) rfl ?_
      obtain ⟨⟨g0, g1⟩, h⟩ := h
      refine Fr.iald (c := 75) (N := 7) (by decide +kernel : zi 176 21 = some (.iaload, 1)) (by decide +kernel) (by decide) g0 g1 ?_
      refine Fr.iconst (by decide +kernel : zi 176 22 = some (.iconst 4, 1)) (by decide) ?_
      refine Fr.if2 (q := 39) (by decide +kernel : zi 176 23 = some (.if_icmp .ne 16, 3)) (by decide +kernel) (fun g9 => ?_) (fun g9 => ?_)
      · have h := h.1 g9
        refine Fr.iconst (by decide +kernel : zi 176 39 = some (.iconst 0, 1)) (by decide) ?_
        exact Fr.retZ (by decide +kernel : zi 176 40 = some (.ireturn, 1)) (by decide +kernel) (by decide) h
      · have h := h.2 g9
        refine Fr.aldn (c := 73) (by decide +kernel : zi 176 26 = some (.aload_n 0, 1)) rfl ⟨by omega, by omega⟩ ?_
        refine Fr.gR (c := 72) (c2 := 76) (ci := 8) (k := 5) 5 (by decide +kernel : zi 176 27 = some (.getfield 16, 3)) (by decide +kernel) (by decide +kernel) (by decide +kernel) (by decide) rfl (fun q => q (72, 5, 76) (by decide +kernel)) ?_
        refine Fr.ildn (by decide +kernel : zi 176 30 = some (.iload_n 2, 1)) rfl ?_
        obtain ⟨⟨g0, g1⟩, h⟩ := h
        refine Fr.iald (c := 75) (N := 7) (by decide +kernel : zi 176 31 = some (.iaload, 1)) (by decide +kernel) (by decide) g0 g1 ?_
        refine Fr.aldn (c := 73) (by decide +kernel : zi 176 32 = some (.aload_n 0, 1)) rfl ⟨by omega, by omega⟩ ?_
        refine Fr.gI (c := 72) (ci := 8) (k := 2) (t := 0) 2 (by decide +kernel : zi 176 33 = some (.getfield 129, 3)) (by decide +kernel) (by decide +kernel) (by decide +kernel) (by decide) rfl ?_
        refine Fr.if2 (q := 41) (by decide +kernel : zi 176 36 = some (.if_icmp .eq 5, 3)) (by decide +kernel) (fun g9 => ?_) (fun g9 => ?_)
        · have h := h.1 g9
          refine Fr.aldn (c := 73) (by decide +kernel : zi 176 41 = some (.aload_n 0, 1)) rfl ⟨by omega, by omega⟩ ?_
          refine Fr.ildn (by decide +kernel : zi 176 42 = some (.iload_n 1, 1)) rfl ?_
          refine Fr.ildn (by decide +kernel : zi 176 43 = some (.iload_n 2, 1)) rfl ?_
          refine Fr.aldn (c := 73) (by decide +kernel : zi 176 44 = some (.aload_n 0, 1)) rfl ⟨by omega, by omega⟩ ?_
          refine Fr.gI (c := 72) (ci := 8) (k := 2) (t := 0) 2 (by decide +kernel : zi 176 45 = some (.getfield 129, 3)) (by decide +kernel) (by decide +kernel) (by decide +kernel) (by decide) rfl ?_
          refine Fr.callI (y2 := 164) (na := 4) (as := [rf 73, it v1, it v2, it (s3 72 2)]) (rest := []) (by decide +kernel : zi 176 48 = some (.invokevirtual 240, 3)) rfl (by decide +kernel) (by decide +kernel) rfl rfl (zok_V rfl (by decide) (by decide +kernel) (by decide +kernel) (zrecv_c (c := 72) (by decide) (by decide +kernel)) rfl (Nat.le_of_ble_eq_true rfl)) h (fun r6 s5 h => ?_)
          refine Fr.if0 (q := 72) (by decide +kernel : zi 176 51 = some (.ifCond .eq 21, 3)) (by decide +kernel) (fun g9 => ?_) (fun g9 => ?_)
          · have h := h.1 g9
            refine Fr.iconst (by decide +kernel : zi 176 72 = some (.iconst 0, 1)) (by decide) ?_
            exact Fr.retZ (by decide +kernel : zi 176 73 = some (.ireturn, 1)) (by decide +kernel) (by decide) h
          · have h := h.2 g9
            refine Fr.aldn (c := 73) (by decide +kernel : zi 176 54 = some (.aload_n 0, 1)) rfl ⟨by omega, by omega⟩ ?_
            refine Fr.ildn (by decide +kernel : zi 176 55 = some (.iload_n 1, 1)) rfl ?_
            refine Fr.ildn (by decide +kernel : zi 176 56 = some (.iload_n 2, 1)) rfl ?_
            refine Fr.callI (y2 := 172) (na := 3) (as := [rf 73, it v1, it v2]) (rest := []) (by decide +kernel : zi 176 57 = some (.invokevirtual 253, 3)) rfl (by decide +kernel) (by decide +kernel) rfl rfl (zok_V rfl (by decide) (by decide +kernel) (by decide +kernel) (zrecv_c (c := 72) (by decide) (by decide +kernel)) rfl (Nat.le_of_ble_eq_true rfl)) h (fun r8 s7 h => ?_)
            refine Fr.if0 (q := 72) (by decide +kernel : zi 176 60 = some (.ifCond .eq 12, 3)) (by decide +kernel) (fun g9 => ?_) (fun g9 => ?_)
            · have h := h.1 g9
              refine Fr.iconst (by decide +kernel : zi 176 72 = some (.iconst 0, 1)) (by decide) ?_
              exact Fr.retZ (by decide +kernel : zi 176 73 = some (.ireturn, 1)) (by decide +kernel) (by decide) h
            · have h := h.2 g9
              refine Fr.aldn (c := 73) (by decide +kernel : zi 176 63 = some (.aload_n 0, 1)) rfl ⟨by omega, by omega⟩ ?_
              refine Fr.ildn (by decide +kernel : zi 176 64 = some (.iload_n 2, 1)) rfl ?_
              refine Fr.ildn (by decide +kernel : zi 176 65 = some (.iload_n 1, 1)) rfl ?_
              refine Fr.callI (y2 := 173) (na := 3) (as := [rf 73, it v2, it v1]) (rest := []) (by decide +kernel : zi 176 66 = some (.invokevirtual 257, 3)) rfl (by decide +kernel) (by decide +kernel) rfl rfl (zok_V rfl (by decide) (by decide +kernel) (by decide +kernel) (zrecv_c (c := 72) (by decide) (by decide +kernel)) rfl (Nat.le_of_ble_eq_true rfl)) h (fun r10 s9 h => ?_)
              refine Fr.if0 (q := 74) (by decide +kernel : zi 176 69 = some (.ifCond .ne 5, 3)) (by decide +kernel) (fun g9 => ?_) (fun g9 => ?_)
              · have h := h.1 g9
                refine Fr.aldn (c := 73) (by decide +kernel : zi 176 74 = some (.aload_n 0, 1)) rfl ⟨by omega, by omega⟩ ?_
                refine Fr.ildn (by decide +kernel : zi 176 75 = some (.iload_n 1, 1)) rfl ?_
                refine Fr.ildn (by decide +kernel : zi 176 76 = some (.iload_n 2, 1)) rfl ?_
                refine Fr.callV (y2 := 177) (na := 3) (as := [rf 73, it v1, it v2]) (rest := []) (by decide +kernel : zi 176 77 = some (.invokevirtual 260, 3)) rfl (by decide +kernel) (by decide +kernel) rfl rfl (zok_V rfl (by decide) (by decide +kernel) (by decide +kernel) (zrecv_c (c := 72) (by decide) (by decide +kernel)) rfl (Nat.le_of_ble_eq_true rfl)) h (fun s11 h => ?_)
                refine Fr.aldn (c := 73) (by decide +kernel : zi 176 80 = some (.aload_n 0, 1)) rfl ⟨by omega, by omega⟩ ?_
                refine Fr.aldn (c := 73) (by decide +kernel : zi 176 81 = some (.aload_n 0, 1)) rfl ⟨by omega, by omega⟩ ?_
                refine Fr.gI (c := 72) (ci := 8) (k := 2) (t := 0) 2 (by decide +kernel : zi 176 82 = some (.getfield 129, 3)) (by decide +kernel) (by decide +kernel) (by decide +kernel) (by decide) rfl ?_
                refine Fr.callI (y2 := 174) (na := 2) (as := [rf 73, it (s11 72 2)]) (rest := []) (by decide +kernel : zi 176 85 = some (.invokevirtual 263, 3)) rfl (by decide +kernel) (by decide +kernel) rfl rfl (zok_V rfl (by decide) (by decide +kernel) (by decide +kernel) (zrecv_c (c := 72) (by decide) (by decide +kernel)) rfl (Nat.le_of_ble_eq_true rfl)) h (fun r13 s12 h => ?_)
                refine Fr.istn (lv2 := [some (rf 73), some (it v1), some (it v2), some (it r13)]) (by decide +kernel : zi 176 88 = some (.istore_n 3, 1)) (Nat.le_of_ble_eq_true rfl) rfl ?_
                refine Fr.aldn (c := 73) (by decide +kernel : zi 176 89 = some (.aload_n 0, 1)) rfl ⟨by omega, by omega⟩ ?_
                refine Fr.ildn (by decide +kernel : zi 176 90 = some (.iload_n 2, 1)) rfl ?_
                refine Fr.ildn (by decide +kernel : zi 176 91 = some (.iload_n 1, 1)) rfl ?_
                refine Fr.callV (y2 := 177) (na := 3) (as := [rf 73, it v2, it v1]) (rest := []) (by decide +kernel : zi 176 92 = some (.invokevirtual 260, 3)) rfl (by decide +kernel) (by decide +kernel) rfl rfl (zok_V rfl (by decide) (by decide +kernel) (by decide +kernel) (zrecv_c (c := 72) (by decide) (by decide +kernel)) rfl (Nat.le_of_ble_eq_true rfl)) h (fun s14 h => ?_)
                refine Fr.ildn (by decide +kernel : zi 176 95 = some (.iload_n 3, 1)) rfl ?_
                exact Fr.retZ (by decide +kernel : zi 176 96 = some (.ireturn, 1)) (by decide +kernel) h.1 h.2
              · have h := h.2 g9
                refine Fr.iconst (by decide +kernel : zi 176 72 = some (.iconst 0, 1)) (by decide) ?_
                exact Fr.retZ (by decide +kernel : zi 176 73 = some (.ireturn, 1)) (by decide +kernel) (by decide) h
        · have h := h.2 g9
          refine Fr.iconst (by decide +kernel : zi 176 39 = some (.iconst 0, 1)) (by decide) ?_
          exact Fr.retZ (by decide +kernel : zi 176 40 = some (.ireturn, 1)) (by decide +kernel) (by decide) h
theorem e176 {xs : Nat → Int} {L : Nat} {d : Nat} {v1 : Int} {v2 : Int} {s : Pl} {Q : Option AV → Pl → Prop} (hd : 1 ≤ d) (k : Fr xs L T0 106 (d - 1) 176 0 [some (rf 73), some (it v1), some (it v2), none] [] s Q) : Ev xs L T0 106 d 176 [rf 73, it v1, it v2] s Q := Ev.of (by decide) _ rfl hd k
-- 177 X8_swap
theorem f177_0 {xs : Nat → Int} {L : Nat} {d : Nat} {v1 : Int} {v2 : Int} {s : Pl} {P : Pl → Prop} (h : (0 ≤ v1 ∧ v1 < 7) ∧ (0 ≤ v2 ∧ v2 < 7) ∧ P (zup (zup s 75 v1 (s 72 2)) 75 v2 4)) : Fr xs L T0 106 d 177 0 [some (rf 73), some (it v1), some (it v2)] [] s (qv P) := by
  refine Fr.aldn (c := 73) (by decide +kernel : zi 177 0 = some (.aload_n 0, 1)) rfl ⟨by omega, by omega⟩ ?_
  refine Fr.gR (c := 72) (c2 := 76) (ci := 8) (k := 5) 5 (by decide +kernel : zi 177 1 = some (.getfield 16, 3)) (by decide +kernel) (by decide +kernel) (by decide +kernel) (by decide) rfl (fun q => q (72, 5, 76) (by decide +kernel)) ?_
  refine Fr.ildn (by decide +kernel : zi 177 4 = some (.iload_n 1, 1)) rfl ?_
  refine Fr.aldn (c := 73) (by decide +kernel : zi 177 5 = some (.aload_n 0, 1)) rfl ⟨by omega, by omega⟩ ?_
  refine Fr.gI (c := 72) (ci := 8) (k := 2) (t := 0) 2 (by decide +kernel : zi 177 6 = some (.getfield 129, 3)) (by decide +kernel) (by decide +kernel) (by decide +kernel) (by decide) rfl ?_
  obtain ⟨⟨g0, g1⟩, h⟩ := h
  refine Fr.iast (c := 75) (N := 7) (by decide +kernel : zi 177 9 = some (.iastore, 1)) (by decide +kernel) (by decide) g0 g1 ?_
  refine Fr.aldn (c := 73) (by decide +kernel : zi 177 10 = some (.aload_n 0, 1)) rfl ⟨by omega, by omega⟩ ?_
  refine Fr.gR (c := 72) (c2 := 76) (ci := 8) (k := 5) 5 (by decide +kernel : zi 177 11 = some (.getfield 16, 3)) (by decide +kernel) (by decide +kernel) (by decide +kernel) (by decide) rfl (fun q => q (72, 5, 76) (by decide +kernel)) ?_
  refine Fr.ildn (by decide +kernel : zi 177 14 = some (.iload_n 2, 1)) rfl ?_
  refine Fr.iconst (by decide +kernel : zi 177 15 = some (.iconst 4, 1)) (by decide) ?_
  obtain ⟨⟨g0, g1⟩, h⟩ := h
  refine Fr.iast (c := 75) (N := 7) (by decide +kernel : zi 177 16 = some (.iastore, 1)) (by decide +kernel) (by decide) g0 g1 ?_
  exact Fr.retV (by decide +kernel : zi 177 17 = some (.return_, 1)) (by decide +kernel) h
theorem e177 {xs : Nat → Int} {L : Nat} {d : Nat} {v1 : Int} {v2 : Int} {s : Pl} {Q : Option AV → Pl → Prop} (hd : 1 ≤ d) (k : Fr xs L T0 106 (d - 1) 177 0 [some (rf 73), some (it v1), some (it v2)] [] s Q) : Ev xs L T0 106 d 177 [rf 73, it v1, it v2] s Q := Ev.of (by decide) _ rfl hd k
-- 178 X8_may
theorem f178_0 {xs : Nat → Int} {L : Nat} {d : Nat} {v1 : Int} {v2 : Int} {s : Pl} {P : Int → Pl → Prop} (h : Ev xs L T0 106 d 135 [rf 73, it v1] s (qi fun r2 s1 => ((r2 = 0 → Fr xs L T0 106 d 178 16 [some (rf 73), some (it v1), some (it v2)] [] s1 (qi P)) ∧ (¬ (r2 = 0) → Ev xs L T0 106 d 135 [rf 73, it v2] s1 (qi fun r4 s3 => ((¬ r4 = 0 → Ev xs L T0 106 d 176 [rf 73, it v1, it v2] s3 (qi fun r6 s5 => ((r6 = 0 → P 0 s5) ∧ (¬ (r6 = 0) → P 1 s5)))) ∧ (¬ (¬ r4 = 0) → Fr xs L T0 106 d 178 16 [some (rf 73), some (it v1), some (it v2)] [] s3 (qi P)))))))) : Fr xs L T0 106 d 178 0 [some (rf 73), some (it v1), some (it v2)] [] s (qi P) := by
  refine Fr.aldn (c := 73) (by decide +kernel : zi 178 0 = some (.aload_n 0, 1)) rfl ⟨by omega, by omega⟩ ?_
  refine Fr.ildn (by decide +kernel : zi 178 1 = some (.iload_n 1, 1)) rfl ?_
  refine Fr.callI (y2 := 135) (na := 2) (as := [rf 73, it v1]) (rest := []) (by decide +kernel : zi 178 2 = some (.invokevirtual 237, 3)) rfl (by decide +kernel) (by decide +kernel) rfl rfl (zok_V rfl (by decide) (by decide +kernel) (by decide +kernel) (zrecv_c (c := 72) (by decide) (by decide +kernel)) rfl (Nat.le_of_ble_eq_true rfl)) h (fun r2 s1 h => ?_)
  refine Fr.if0 (q := 16) (by decide +kernel : zi 178 5 = some (.ifCond .eq 11, 3)) (by decide +kernel) (fun g9 => ?_) (fun g9 => ?_)
  · have h := h.1 g9
    exact h
  · have h := h.2 g9
    refine Fr.aldn (c := 73) (by decide +kernel : zi 178 8 = some (.aload_n 0, 1)) rfl ⟨by omega, by omega⟩ ?_
    refine Fr.ildn (by decide +kernel : zi 178 9 = some (.iload_n 2, 1)) rfl ?_
    refine Fr.callI (y2 := 135) (na := 2) (as := [rf 73, it v2]) (rest := []) (by decide +kernel : zi 178 10 = some (.invokevirtual 237, 3)) rfl (by decide +kernel) (by decide +kernel) rfl rfl (zok_V rfl (by decide) (by decide +kernel) (by decide +kernel) (zrecv_c (c := 72) (by decide) (by decide +kernel)) rfl (Nat.le_of_ble_eq_true rfl)) h (fun r4 s3 h => ?_)
    refine Fr.if0 (q := 21) (by decide +kernel : zi 178 13 = some (.ifCond .ne 8, 3)) (by decide +kernel) (fun g9 => ?_) (fun g9 => ?_)
    · have h := h.1 g9
      refine Fr.aldn (c := 73) (by decide +kernel : zi 178 21 = some (.aload_n 0, 1)) rfl ⟨by omega, by omega⟩ ?_
      refine Fr.ildn (by decide +kernel : zi 178 22 = some (.iload_n 1, 1)) rfl ?_
      refine Fr.ildn (by decide +kernel : zi 178 23 = some (.iload_n 2, 1)) rfl ?_
      refine Fr.callI (y2 := 176) (na := 3) (as := [rf 73, it v1, it v2]) (rest := []) (by decide +kernel : zi 178 24 = some (.invokevirtual 266, 3)) rfl (by decide +kernel) (by decide +kernel) rfl rfl (zok_V rfl (by decide) (by decide +kernel) (by decide +kernel) (zrecv_c (c := 72) (by decide) (by decide +kernel)) rfl (Nat.le_of_ble_eq_true rfl)) h (fun r6 s5 h => ?_)
      refine Fr.if0 (q := 34) (by decide +kernel : zi 178 27 = some (.ifCond .eq 7, 3)) (by decide +kernel) (fun g9 => ?_) (fun g9 => ?_)
      · have h := h.1 g9
        refine Fr.iconst (by decide +kernel : zi 178 34 = some (.iconst 0, 1)) (by decide) ?_
        exact Fr.retI (by decide +kernel : zi 178 35 = some (.ireturn, 1)) (by decide +kernel) h
      · have h := h.2 g9
        refine Fr.iconst (by decide +kernel : zi 178 30 = some (.iconst 1, 1)) (by decide) ?_
        refine Fr.goto (q := 35) (by decide +kernel : zi 178 31 = some (.goto 4, 3)) (by decide +kernel) ?_
        exact Fr.retI (by decide +kernel : zi 178 35 = some (.ireturn, 1)) (by decide +kernel) h
    · have h := h.2 g9
      exact h
theorem e178 {xs : Nat → Int} {L : Nat} {d : Nat} {v1 : Int} {v2 : Int} {s : Pl} {Q : Option AV → Pl → Prop} (hd : 1 ≤ d) (k : Fr xs L T0 106 (d - 1) 178 0 [some (rf 73), some (it v1), some (it v2)] [] s Q) : Ev xs L T0 106 d 178 [rf 73, it v1, it v2] s Q := Ev.of (by decide) _ rfl hd k
theorem f178_16 {xs : Nat → Int} {L : Nat} {d : Nat} {v1 : Int} {v2 : Int} {s : Pl} {P : Int → Pl → Prop} (h : P (-5) s) : Fr xs L T0 106 d 178 16 [some (rf 73), some (it v1), some (it v2)] [] s (qi P) := by
  refine Fr.bipush (by decide +kernel : zi 178 16 = some (.bipush (-5), 2)) (by decide) ?_
  refine Fr.goto (q := 35) (by decide +kernel : zi 178 18 = some (.goto 17, 3)) (by decide +kernel) ?_
  exact Fr.retI (by decide +kernel : zi 178 35 = some (.ireturn, 1)) (by decide +kernel) h
-- 179 X8_alone
theorem f179_0 {xs : Nat → Int} {L : Nat} {d : Nat}  {s : Pl} {P : Int → Pl → Prop} (h : Fr xs L T0 106 d 179 4 [some (rf 73), some (it 0), some (it 0)] [] s (qi P)) : Fr xs L T0 106 d 179 0 [some (rf 73), none, none] [] s (qi P) := by
  refine Fr.iconst (by decide +kernel : zi 179 0 = some (.iconst 0, 1)) (by decide) ?_
  refine Fr.istn (lv2 := [some (rf 73), some (it 0), none]) (by decide +kernel : zi 179 1 = some (.istore_n 1, 1)) (Nat.le_of_ble_eq_true rfl) rfl ?_
  refine Fr.iconst (by decide +kernel : zi 179 2 = some (.iconst 0, 1)) (by decide) ?_
  refine Fr.istn (lv2 := [some (rf 73), some (it 0), some (it 0)]) (by decide +kernel : zi 179 3 = some (.istore_n 2, 1)) (Nat.le_of_ble_eq_true rfl) rfl ?_
  exact h
theorem e179 {xs : Nat → Int} {L : Nat} {d : Nat}  {s : Pl} {Q : Option AV → Pl → Prop} (hd : 1 ≤ d) (k : Fr xs L T0 106 (d - 1) 179 0 [some (rf 73), none, none] [] s Q) : Ev xs L T0 106 d 179 [rf 73] s Q := Ev.of (by decide) _ rfl hd k
theorem f179_4 {xs : Nat → Int} {L : Nat} {d : Nat} {v1 : Int} {v2 : Int} {s : Pl} {P : Int → Pl → Prop} (h : ((4 ≤ v2 → P v1 s) ∧ (¬ (4 ≤ v2) → Ev xs L T0 106 d 174 [rf 73, it v2] s (qi fun r2 s1 => ((¬ r2 = 0 → Fr xs L T0 106 d 179 23 [some (rf 73), some (it v1), some (it v2)] [] s1 (qi P)) ∧ (¬ (¬ r2 = 0) → Fr xs L T0 106 d 179 23 [some (rf 73), some (it (zor v1 (zshl 1 v2))), some (it v2)] [] s1 (qi P))))))) : Fr xs L T0 106 d 179 4 [some (rf 73), some (it v1), some (it v2)] [] s (qi P) := by
  refine Fr.ildn (by decide +kernel : zi 179 4 = some (.iload_n 2, 1)) rfl ?_
  refine Fr.iconst (by decide +kernel : zi 179 5 = some (.iconst 4, 1)) (by decide) ?_
  refine Fr.if2 (q := 29) (by decide +kernel : zi 179 6 = some (.if_icmp .ge 23, 3)) (by decide +kernel) (fun g9 => ?_) (fun g9 => ?_)
  · have h := h.1 g9
    refine Fr.ildn (by decide +kernel : zi 179 29 = some (.iload_n 1, 1)) rfl ?_
    exact Fr.retI (by decide +kernel : zi 179 30 = some (.ireturn, 1)) (by decide +kernel) h
  · have h := h.2 g9
    refine Fr.aldn (c := 73) (by decide +kernel : zi 179 9 = some (.aload_n 0, 1)) rfl ⟨by omega, by omega⟩ ?_
    refine Fr.ildn (by decide +kernel : zi 179 10 = some (.iload_n 2, 1)) rfl ?_
    refine Fr.callI (y2 := 174) (na := 2) (as := [rf 73, it v2]) (rest := []) (by decide +kernel : zi 179 11 = some (.invokevirtual 263, 3)) rfl (by decide +kernel) (by decide +kernel) rfl rfl (zok_V rfl (by decide) (by decide +kernel) (by decide +kernel) (zrecv_c (c := 72) (by decide) (by decide +kernel)) rfl (Nat.le_of_ble_eq_true rfl)) h (fun r2 s1 h => ?_)
    refine Fr.if0 (q := 23) (by decide +kernel : zi 179 14 = some (.ifCond .ne 9, 3)) (by decide +kernel) (fun g9 => ?_) (fun g9 => ?_)
    · have h := h.1 g9
      exact h
    · have h := h.2 g9
      refine Fr.ildn (by decide +kernel : zi 179 17 = some (.iload_n 1, 1)) rfl ?_
      refine Fr.iconst (by decide +kernel : zi 179 18 = some (.iconst 1, 1)) (by decide) ?_
      refine Fr.ildn (by decide +kernel : zi 179 19 = some (.iload_n 2, 1)) rfl ?_
      refine Fr.ishl (by decide +kernel : zi 179 20 = some (.ishl, 1)) ?_
      refine Fr.ior (by decide +kernel : zi 179 21 = some (.ior, 1)) ?_
      refine Fr.istn (lv2 := [some (rf 73), some (it (zor v1 (zshl 1 v2))), some (it v2)]) (by decide +kernel : zi 179 22 = some (.istore_n 1, 1)) (Nat.le_of_ble_eq_true rfl) rfl ?_
      exact h
theorem f179_23 {xs : Nat → Int} {L : Nat} {d : Nat} {v1 : Int} {v2 : Int} {s : Pl} {P : Int → Pl → Prop} (h : Fr xs L T0 106 d 179 4 [some (rf 73), some (it v1), some (it (zw (v2 + 1)))] [] s (qi P)) : Fr xs L T0 106 d 179 23 [some (rf 73), some (it v1), some (it v2)] [] s (qi P) := by
  refine Fr.iinc (lv2 := [some (rf 73), some (it v1), some (it (zw (v2 + 1)))]) (by decide +kernel : zi 179 23 = some (.iinc 2 1, 3)) (Nat.le_of_ble_eq_true rfl) rfl rfl ?_
  refine Fr.goto (q := 4) (by decide +kernel : zi 179 26 = some (.goto (-22), 3)) (by decide +kernel) ?_
  exact h
-- 180 X8_isThere
theorem f180_0 {xs : Nat → Int} {L : Nat} {d : Nat} {v1 : Int} {s : Pl} {P : Int → Pl → Prop} (h : (0 ≤ v1 ∧ v1 < 7) ∧ ((s 74 v1 = 3 → Fr xs L T0 106 d 180 35 [some (rf 73), some (it v1)] [] s (qi P)) ∧ (¬ (s 74 v1 = 3) → (0 ≤ v1 ∧ v1 < 7) ∧ ((s 74 v1 = 4 → Fr xs L T0 106 d 180 35 [some (rf 73), some (it v1)] [] s (qi P)) ∧ (¬ (s 74 v1 = 4) → (0 ≤ v1 ∧ v1 < 7) ∧ (0 ≤ v1 ∧ v1 < 7) ∧ ((¬ s 75 v1 = s 76 v1 → P 0 s) ∧ (¬ (¬ s 75 v1 = s 76 v1) → Fr xs L T0 106 d 180 35 [some (rf 73), some (it v1)] [] s (qi P)))))))) : Fr xs L T0 106 d 180 0 [some (rf 73), some (it v1)] [] s (qi P) := by
  refine Fr.aldn (c := 73) (by decide +kernel : zi 180 0 = some (.aload_n 0, 1)) rfl ⟨by omega, by omega⟩ ?_
  refine Fr.gR (c := 72) (c2 := 75) (ci := 8) (k := 4) 4 (by decide +kernel : zi 180 1 = some (.getfield 13, 3)) (by decide +kernel) (by decide +kernel) (by decide +kernel) (by decide) rfl (fun q => q (72, 4, 75) (by decide +kernel)) ?_
  refine Fr.ildn (by decide +kernel : zi 180 4 = some (.iload_n 1, 1)) rfl ?_
  obtain ⟨⟨g0, g1⟩, h⟩ := h
  refine Fr.iald (c := 74) (N := 7) (by decide +kernel : zi 180 5 = some (.iaload, 1)) (by decide +kernel) (by decide) g0 g1 ?_
  refine Fr.iconst (by decide +kernel : zi 180 6 = some (.iconst 3, 1)) (by decide) ?_
  refine Fr.if2 (q := 35) (by decide +kernel : zi 180 7 = some (.if_icmp .eq 28, 3)) (by decide +kernel) (fun g9 => ?_) (fun g9 => ?_)
  · have h := h.1 g9
    exact h
  · have h := h.2 g9
    refine Fr.aldn (c := 73) (by decide +kernel : zi 180 10 = some (.aload_n 0, 1)) rfl ⟨by omega, by omega⟩ ?_
    refine Fr.gR (c := 72) (c2 := 75) (ci := 8) (k := 4) 4 (by decide +kernel : zi 180 11 = some (.getfield 13, 3)) (by decide +kernel) (by decide +kernel) (by decide +kernel) (by decide) rfl (fun q => q (72, 4, 75) (by decide +kernel)) ?_
    refine Fr.ildn (by decide +kernel : zi 180 14 = some (.iload_n 1, 1)) rfl ?_
    obtain ⟨⟨g0, g1⟩, h⟩ := h
    refine Fr.iald (c := 74) (N := 7) (by decide +kernel : zi 180 15 = some (.iaload, 1)) (by decide +kernel) (by decide) g0 g1 ?_
    refine Fr.iconst (by decide +kernel : zi 180 16 = some (.iconst 4, 1)) (by decide) ?_
    refine Fr.if2 (q := 35) (by decide +kernel : zi 180 17 = some (.if_icmp .eq 18, 3)) (by decide +kernel) (fun g9 => ?_) (fun g9 => ?_)
    · have h := h.1 g9
      exact h
    · have h := h.2 g9
      refine Fr.aldn (c := 73) (by decide +kernel : zi 180 20 = some (.aload_n 0, 1)) rfl ⟨by omega, by omega⟩ ?_
      refine Fr.gR (c := 72) (c2 := 76) (ci := 8) (k := 5) 5 (by decide +kernel : zi 180 21 = some (.getfield 16, 3)) (by decide +kernel) (by decide +kernel) (by decide +kernel) (by decide) rfl (fun q => q (72, 5, 76) (by decide +kernel)) ?_
      refine Fr.ildn (by decide +kernel : zi 180 24 = some (.iload_n 1, 1)) rfl ?_
      obtain ⟨⟨g0, g1⟩, h⟩ := h
      refine Fr.iald (c := 75) (N := 7) (by decide +kernel : zi 180 25 = some (.iaload, 1)) (by decide +kernel) (by decide) g0 g1 ?_
      refine Fr.aldn (c := 73) (by decide +kernel : zi 180 26 = some (.aload_n 0, 1)) rfl ⟨by omega, by omega⟩ ?_
      refine Fr.gR (c := 72) (c2 := 77) (ci := 8) (k := 6) 6 (by decide +kernel : zi 180 27 = some (.getfield 19, 3)) (by decide +kernel) (by decide +kernel) (by decide +kernel) (by decide) rfl (fun q => q (72, 6, 77) (by decide +kernel)) ?_
      refine Fr.ildn (by decide +kernel : zi 180 30 = some (.iload_n 1, 1)) rfl ?_
      obtain ⟨⟨g0, g1⟩, h⟩ := h
      refine Fr.iald (c := 76) (N := 7) (by decide +kernel : zi 180 31 = some (.iaload, 1)) (by decide +kernel) (by decide) g0 g1 ?_
      refine Fr.if2 (q := 39) (by decide +kernel : zi 180 32 = some (.if_icmp .ne 7, 3)) (by decide +kernel) (fun g9 => ?_) (fun g9 => ?_)
      · have h := h.1 g9
        refine Fr.iconst (by decide +kernel : zi 180 39 = some (.iconst 0, 1)) (by decide) ?_
        exact Fr.retZ (by decide +kernel : zi 180 40 = some (.ireturn, 1)) (by decide +kernel) (by decide) h
      · have h := h.2 g9
        exact h
theorem e180 {xs : Nat → Int} {L : Nat} {d : Nat} {v1 : Int} {s : Pl} {Q : Option AV → Pl → Prop} (hd : 1 ≤ d) (k : Fr xs L T0 106 (d - 1) 180 0 [some (rf 73), some (it v1)] [] s Q) : Ev xs L T0 106 d 180 [rf 73, it v1] s Q := Ev.of (by decide) _ rfl hd k
theorem f180_35 {xs : Nat → Int} {L : Nat} {d : Nat} {v1 : Int} {s : Pl} {P : Int → Pl → Prop} (h : P 1 s) : Fr xs L T0 106 d 180 35 [some (rf 73), some (it v1)] [] s (qi P) := by
  refine Fr.iconst (by decide +kernel : zi 180 35 = some (.iconst 1, 1)) (by decide) ?_
  refine Fr.goto (q := 40) (by decide +kernel : zi 180 36 = some (.goto 4, 3)) (by decide +kernel) ?_
  exact Fr.retZ (by decide +kernel : zi 180 40 = some (.ireturn, 1)) (by decide +kernel) (by decide) h
-- 181 X8_whoIsThere
theorem f181_0 {xs : Nat → Int} {L : Nat} {d : Nat}  {s : Pl} {P : Int → Pl → Prop} (h : Fr xs L T0 106 d 181 4 [some (rf 73), some (it 0), some (it 0)] [] s (qi P)) : Fr xs L T0 106 d 181 0 [some (rf 73), none, none] [] s (qi P) := by
  refine Fr.iconst (by decide +kernel : zi 181 0 = some (.iconst 0, 1)) (by decide) ?_
  refine Fr.istn (lv2 := [some (rf 73), some (it 0), none]) (by decide +kernel : zi 181 1 = some (.istore_n 1, 1)) (Nat.le_of_ble_eq_true rfl) rfl ?_
  refine Fr.iconst (by decide +kernel : zi 181 2 = some (.iconst 0, 1)) (by decide) ?_
  refine Fr.istn (lv2 := [some (rf 73), some (it 0), some (it 0)]) (by decide +kernel : zi 181 3 = some (.istore_n 2, 1)) (Nat.le_of_ble_eq_true rfl) rfl ?_
  exact h
theorem e181 {xs : Nat → Int} {L : Nat} {d : Nat}  {s : Pl} {Q : Option AV → Pl → Prop} (hd : 1 ≤ d) (k : Fr xs L T0 106 (d - 1) 181 0 [some (rf 73), none, none] [] s Q) : Ev xs L T0 106 d 181 [rf 73] s Q := Ev.of (by decide) _ rfl hd k
theorem f181_4 {xs : Nat → Int} {L : Nat} {d : Nat} {v1 : Int} {v2 : Int} {s : Pl} {P : Int → Pl → Prop} (h : ((s 72 3 ≤ v2 → P v1 s) ∧ (¬ (s 72 3 ≤ v2) → Ev xs L T0 106 d 180 [rf 73, it v2] s (qi fun r2 s1 => ((r2 = 0 → Fr xs L T0 106 d 181 26 [some (rf 73), some (it v1), some (it v2)] [] s1 (qi P)) ∧ (¬ (r2 = 0) → Fr xs L T0 106 d 181 26 [some (rf 73), some (it (zor v1 (zshl 1 v2))), some (it v2)] [] s1 (qi P))))))) : Fr xs L T0 106 d 181 4 [some (rf 73), some (it v1), some (it v2)] [] s (qi P) := by
  refine Fr.ildn (by decide +kernel : zi 181 4 = some (.iload_n 2, 1)) rfl ?_
  refine Fr.aldn (c := 73) (by decide +kernel : zi 181 5 = some (.aload_n 0, 1)) rfl ⟨by omega, by omega⟩ ?_
  refine Fr.gI (c := 72) (ci := 8) (k := 3) (t := 0) 3 (by decide +kernel : zi 181 6 = some (.getfield 122, 3)) (by decide +kernel) (by decide +kernel) (by decide +kernel) (by decide) rfl ?_
  refine Fr.if2 (q := 32) (by decide +kernel : zi 181 9 = some (.if_icmp .ge 23, 3)) (by decide +kernel) (fun g9 => ?_) (fun g9 => ?_)
  · have h := h.1 g9
    refine Fr.ildn (by decide +kernel : zi 181 32 = some (.iload_n 1, 1)) rfl ?_
    exact Fr.retI (by decide +kernel : zi 181 33 = some (.ireturn, 1)) (by decide +kernel) h
  · have h := h.2 g9
    refine Fr.aldn (c := 73) (by decide +kernel : zi 181 12 = some (.aload_n 0, 1)) rfl ⟨by omega, by omega⟩ ?_
    refine Fr.ildn (by decide +kernel : zi 181 13 = some (.iload_n 2, 1)) rfl ?_
    refine Fr.callI (y2 := 180) (na := 2) (as := [rf 73, it v2]) (rest := []) (by decide +kernel : zi 181 14 = some (.invokevirtual 269, 3)) rfl (by decide +kernel) (by decide +kernel) rfl rfl (zok_V rfl (by decide) (by decide +kernel) (by decide +kernel) (zrecv_c (c := 72) (by decide) (by decide +kernel)) rfl (Nat.le_of_ble_eq_true rfl)) h (fun r2 s1 h => ?_)
    refine Fr.if0 (q := 26) (by decide +kernel : zi 181 17 = some (.ifCond .eq 9, 3)) (by decide +kernel) (fun g9 => ?_) (fun g9 => ?_)
    · have h := h.1 g9
      exact h
    · have h := h.2 g9
      refine Fr.ildn (by decide +kernel : zi 181 20 = some (.iload_n 1, 1)) rfl ?_
      refine Fr.iconst (by decide +kernel : zi 181 21 = some (.iconst 1, 1)) (by decide) ?_
      refine Fr.ildn (by decide +kernel : zi 181 22 = some (.iload_n 2, 1)) rfl ?_
      refine Fr.ishl (by decide +kernel : zi 181 23 = some (.ishl, 1)) ?_
      refine Fr.ior (by decide +kernel : zi 181 24 = some (.ior, 1)) ?_
      refine Fr.istn (lv2 := [some (rf 73), some (it (zor v1 (zshl 1 v2))), some (it v2)]) (by decide +kernel : zi 181 25 = some (.istore_n 1, 1)) (Nat.le_of_ble_eq_true rfl) rfl ?_
      exact h
theorem f181_26 {xs : Nat → Int} {L : Nat} {d : Nat} {v1 : Int} {v2 : Int} {s : Pl} {P : Int → Pl → Prop} (h : Fr xs L T0 106 d 181 4 [some (rf 73), some (it v1), some (it (zw (v2 + 1)))] [] s (qi P)) : Fr xs L T0 106 d 181 26 [some (rf 73), some (it v1), some (it v2)] [] s (qi P) := by
  refine Fr.iinc (lv2 := [some (rf 73), some (it v1), some (it (zw (v2 + 1)))]) (by decide +kernel : zi 181 26 = some (.iinc 2 1, 3)) (Nat.le_of_ble_eq_true rfl) rfl rfl ?_
  refine Fr.goto (q := 4) (by decide +kernel : zi 181 29 = some (.goto (-25), 3)) (by decide +kernel) ?_
  exact h
-- 182 X8_move
theorem f182_0 {xs : Nat → Int} {L : Nat} {d : Nat} {v1 : Int} {v2 : Int} {v3 : Int} {s : Pl} {P : Int → Pl → Prop} (h : Ev xs L T0 106 d 132 [it v1, it 0, it 2] s (qi fun r2 s1 => ((r2 = 0 → P (-2) s1) ∧ (¬ (r2 = 0) → ((¬ v1 = 0 → ((¬ v1 = 1 → Fr xs L T0 106 d 182 30 [some (rf 73), some (it v1), some (it v2), some (it v3)] [it 99, it 0, it v2] s1 (qi P)) ∧ (¬ (¬ v1 = 1) → Fr xs L T0 106 d 182 30 [some (rf 73), some (it v1), some (it v2), some (it v3)] [it 5, it 0, it v2] s1 (qi P)))) ∧ (¬ (¬ v1 = 0) → Fr xs L T0 106 d 182 30 [some (rf 73), some (it v1), some (it v2), some (it v3)] [it 3, it 0, it v2] s1 (qi P))))))) : Fr xs L T0 106 d 182 0 [some (rf 73), some (it v1), some (it v2), some (it v3)] [] s (qi P) := by
  refine Fr.ildn (by decide +kernel : zi 182 0 = some (.iload_n 1, 1)) rfl ?_
  refine Fr.iconst (by decide +kernel : zi 182 1 = some (.iconst 0, 1)) (by decide) ?_
  refine Fr.iconst (by decide +kernel : zi 182 2 = some (.iconst 2, 1)) (by decide) ?_
  refine Fr.callI (y2 := 132) (na := 3) (as := [it v1, it 0, it 2]) (rest := []) (by decide +kernel : zi 182 3 = some (.invokestatic 118, 3)) rfl (by decide +kernel) (by decide +kernel) rfl rfl (zok_S rfl (by decide) (by decide +kernel) rfl (Nat.le_of_ble_eq_true rfl)) h (fun r2 s1 h => ?_)
  refine Fr.if0 (q := 45) (by decide +kernel : zi 182 6 = some (.ifCond .eq 39, 3)) (by decide +kernel) (fun g9 => ?_) (fun g9 => ?_)
  · have h := h.1 g9
    refine Fr.bipush (by decide +kernel : zi 182 45 = some (.bipush (-2), 2)) (by decide) ?_
    exact Fr.retI (by decide +kernel : zi 182 47 = some (.ireturn, 1)) (by decide +kernel) h
  · have h := h.2 g9
    refine Fr.ildn (by decide +kernel : zi 182 9 = some (.iload_n 2, 1)) rfl ?_
    refine Fr.iconst (by decide +kernel : zi 182 10 = some (.iconst 0, 1)) (by decide) ?_
    refine Fr.ildn (by decide +kernel : zi 182 11 = some (.iload_n 1, 1)) rfl ?_
    refine Fr.if0 (q := 19) (by decide +kernel : zi 182 12 = some (.ifCond .ne 7, 3)) (by decide +kernel) (fun g9 => ?_) (fun g9 => ?_)
    · have h := h.1 g9
      refine Fr.ildn (by decide +kernel : zi 182 19 = some (.iload_n 1, 1)) rfl ?_
      refine Fr.iconst (by decide +kernel : zi 182 20 = some (.iconst 1, 1)) (by decide) ?_
      refine Fr.if2 (q := 28) (by decide +kernel : zi 182 21 = some (.if_icmp .ne 7, 3)) (by decide +kernel) (fun g9 => ?_) (fun g9 => ?_)
      · have h := h.1 g9
        refine Fr.bipush (by decide +kernel : zi 182 28 = some (.bipush 99, 2)) (by decide) ?_
        exact h
      · have h := h.2 g9
        refine Fr.iconst (by decide +kernel : zi 182 24 = some (.iconst 5, 1)) (by decide) ?_
        refine Fr.goto (q := 30) (by decide +kernel : zi 182 25 = some (.goto 5, 3)) (by decide +kernel) ?_
        exact h
    · have h := h.2 g9
      refine Fr.iconst (by decide +kernel : zi 182 15 = some (.iconst 3, 1)) (by decide) ?_
      refine Fr.goto (q := 30) (by decide +kernel : zi 182 16 = some (.goto 14, 3)) (by decide +kernel) ?_
      exact h
theorem e182 {xs : Nat → Int} {L : Nat} {d : Nat} {v1 : Int} {v2 : Int} {v3 : Int} {s : Pl} {Q : Option AV → Pl → Prop} (hd : 1 ≤ d) (k : Fr xs L T0 106 (d - 1) 182 0 [some (rf 73), some (it v1), some (it v2), some (it v3)] [] s Q) : Ev xs L T0 106 d 182 [rf 73, it v1, it v2, it v3] s Q := Ev.of (by decide) _ rfl hd k
theorem f182_30 {xs : Nat → Int} {L : Nat} {d : Nat} {v1 : Int} {v2 : Int} {v3 : Int} {vs0 : Int} {vs1 : Int} {vs2 : Int} {s : Pl} {P : Int → Pl → Prop} (h : Ev xs L T0 106 d 132 [it vs2, it vs1, it vs0] s (qi fun r2 s1 => ((r2 = 0 → P (-2) s1) ∧ (¬ (r2 = 0) → Ev xs L T0 106 d 132 [it v3, it 0, it 5] s1 (qi fun r4 s3 => ((¬ r4 = 0 → ((¬ s3 72 29 = 16 → (0 ≤ s3 72 29 ∧ s3 72 29 < 16) ∧ (0 ≤ (zup s3 89 (s3 72 29) v1) 72 29 ∧ (zup s3 89 (s3 72 29) v1) 72 29 < 16) ∧ (0 ≤ (zup (zup s3 89 (s3 72 29) v1) 90 ((zup s3 89 (s3 72 29) v1) 72 29) v2) 72 29 ∧ (zup (zup s3 89 (s3 72 29) v1) 90 ((zup s3 89 (s3 72 29) v1) 72 29) v2) 72 29 < 16) ∧ P (zw (((zup (zup (zup (zup s3 89 (s3 72 29) v1) 90 ((zup s3 89 (s3 72 29) v1) 72 29) v2) 91 ((zup (zup s3 89 (s3 72 29) v1) 90 ((zup s3 89 (s3 72 29) v1) 72 29) v2) 72 29) v3) 72 29 (zw (((zup (zup (zup s3 89 (s3 72 29) v1) 90 ((zup s3 89 (s3 72 29) v1) 72 29) v2) 91 ((zup (zup s3 89 (s3 72 29) v1) 90 ((zup s3 89 (s3 72 29) v1) 72 29) v2) 72 29) v3) 72 29) + 1))) 72 29) - 1)) (zup (zup (zup (zup s3 89 (s3 72 29) v1) 90 ((zup s3 89 (s3 72 29) v1) 72 29) v2) 91 ((zup (zup s3 89 (s3 72 29) v1) 90 ((zup s3 89 (s3 72 29) v1) 72 29) v2) 72 29) v3) 72 29 (zw (((zup (zup (zup s3 89 (s3 72 29) v1) 90 ((zup s3 89 (s3 72 29) v1) 72 29) v2) 91 ((zup (zup s3 89 (s3 72 29) v1) 90 ((zup s3 89 (s3 72 29) v1) 72 29) v2) 72 29) v3) 72 29) + 1)))) ∧ (¬ (¬ s3 72 29 = 16) → P (-4) s3))) ∧ (¬ (¬ r4 = 0) → P (-2) s3))))))) : Fr xs L T0 106 d 182 30 [some (rf 73), some (it v1), some (it v2), some (it v3)] [it vs0, it vs1, it vs2] s (qi P) := by
  refine Fr.callI (y2 := 132) (na := 3) (as := [it vs2, it vs1, it vs0]) (rest := []) (by decide +kernel : zi 182 30 = some (.invokestatic 118, 3)) rfl (by decide +kernel) (by decide +kernel) rfl rfl (zok_S rfl (by decide) (by decide +kernel) rfl (Nat.le_of_ble_eq_true rfl)) h (fun r2 s1 h => ?_)
  refine Fr.if0 (q := 45) (by decide +kernel : zi 182 33 = some (.ifCond .eq 12, 3)) (by decide +kernel) (fun g9 => ?_) (fun g9 => ?_)
  · have h := h.1 g9
    refine Fr.bipush (by decide +kernel : zi 182 45 = some (.bipush (-2), 2)) (by decide) ?_
    exact Fr.retI (by decide +kernel : zi 182 47 = some (.ireturn, 1)) (by decide +kernel) h
  · have h := h.2 g9
    refine Fr.ildn (by decide +kernel : zi 182 36 = some (.iload_n 3, 1)) rfl ?_
    refine Fr.iconst (by decide +kernel : zi 182 37 = some (.iconst 0, 1)) (by decide) ?_
    refine Fr.iconst (by decide +kernel : zi 182 38 = some (.iconst 5, 1)) (by decide) ?_
    refine Fr.callI (y2 := 132) (na := 3) (as := [it v3, it 0, it 5]) (rest := []) (by decide +kernel : zi 182 39 = some (.invokestatic 118, 3)) rfl (by decide +kernel) (by decide +kernel) rfl rfl (zok_S rfl (by decide) (by decide +kernel) rfl (Nat.le_of_ble_eq_true rfl)) h (fun r4 s3 h => ?_)
    refine Fr.if0 (q := 48) (by decide +kernel : zi 182 42 = some (.ifCond .ne 6, 3)) (by decide +kernel) (fun g9 => ?_) (fun g9 => ?_)
    · have h := h.1 g9
      refine Fr.aldn (c := 73) (by decide +kernel : zi 182 48 = some (.aload_n 0, 1)) rfl ⟨by omega, by omega⟩ ?_
      refine Fr.gI (c := 72) (ci := 8) (k := 29) (t := 0) 29 (by decide +kernel : zi 182 49 = some (.getfield 136, 3)) (by decide +kernel) (by decide +kernel) (by decide +kernel) (by decide) rfl ?_
      refine Fr.bipush (by decide +kernel : zi 182 52 = some (.bipush 16, 2)) (by decide) ?_
      refine Fr.if2 (q := 60) (by decide +kernel : zi 182 54 = some (.if_icmp .ne 6, 3)) (by decide +kernel) (fun g9 => ?_) (fun g9 => ?_)
      · have h := h.1 g9
        refine Fr.aldn (c := 73) (by decide +kernel : zi 182 60 = some (.aload_n 0, 1)) rfl ⟨by omega, by omega⟩ ?_
        refine Fr.gR (c := 72) (c2 := 90) (ci := 8) (k := 30) 30 (by decide +kernel : zi 182 61 = some (.getfield 63, 3)) (by decide +kernel) (by decide +kernel) (by decide +kernel) (by decide) rfl (fun q => q (72, 30, 90) (by decide +kernel)) ?_
        refine Fr.aldn (c := 73) (by decide +kernel : zi 182 64 = some (.aload_n 0, 1)) rfl ⟨by omega, by omega⟩ ?_
        refine Fr.gI (c := 72) (ci := 8) (k := 29) (t := 0) 29 (by decide +kernel : zi 182 65 = some (.getfield 136, 3)) (by decide +kernel) (by decide +kernel) (by decide +kernel) (by decide) rfl ?_
        refine Fr.ildn (by decide +kernel : zi 182 68 = some (.iload_n 1, 1)) rfl ?_
        obtain ⟨⟨g0, g1⟩, h⟩ := h
        refine Fr.iast (c := 89) (N := 16) (by decide +kernel : zi 182 69 = some (.iastore, 1)) (by decide +kernel) (by decide) g0 g1 ?_
        refine Fr.aldn (c := 73) (by decide +kernel : zi 182 70 = some (.aload_n 0, 1)) rfl ⟨by omega, by omega⟩ ?_
        refine Fr.gR (c := 72) (c2 := 91) (ci := 8) (k := 31) 31 (by decide +kernel : zi 182 71 = some (.getfield 66, 3)) (by decide +kernel) (by decide +kernel) (by decide +kernel) (by decide) rfl (fun q => q (72, 31, 91) (by decide +kernel)) ?_
        refine Fr.aldn (c := 73) (by decide +kernel : zi 182 74 = some (.aload_n 0, 1)) rfl ⟨by omega, by omega⟩ ?_
        refine Fr.gI (c := 72) (ci := 8) (k := 29) (t := 0) 29 (by decide +kernel : zi 182 75 = some (.getfield 136, 3)) (by decide +kernel) (by decide +kernel) (by decide +kernel) (by decide) rfl ?_
        refine Fr.ildn (by decide +kernel : zi 182 78 = some (.iload_n 2, 1)) rfl ?_
        obtain ⟨⟨g0, g1⟩, h⟩ := h
        refine Fr.iast (c := 90) (N := 16) (by decide +kernel : zi 182 79 = some (.iastore, 1)) (by decide +kernel) (by decide) g0 g1 ?_
        refine Fr.aldn (c := 73) (by decide +kernel : zi 182 80 = some (.aload_n 0, 1)) rfl ⟨by omega, by omega⟩ ?_
        refine Fr.gR (c := 72) (c2 := 92) (ci := 8) (k := 32) 32 (by decide +kernel : zi 182 81 = some (.getfield 69, 3)) (by decide +kernel) (by decide +kernel) (by decide +kernel) (by decide) rfl (fun q => q (72, 32, 92) (by decide +kernel)) ?_
        refine Fr.aldn (c := 73) (by decide +kernel : zi 182 84 = some (.aload_n 0, 1)) rfl ⟨by omega, by omega⟩ ?_
        refine Fr.gI (c := 72) (ci := 8) (k := 29) (t := 0) 29 (by decide +kernel : zi 182 85 = some (.getfield 136, 3)) (by decide +kernel) (by decide +kernel) (by decide +kernel) (by decide) rfl ?_
        refine Fr.ildn (by decide +kernel : zi 182 88 = some (.iload_n 3, 1)) rfl ?_
        obtain ⟨⟨g0, g1⟩, h⟩ := h
        refine Fr.iast (c := 91) (N := 16) (by decide +kernel : zi 182 89 = some (.iastore, 1)) (by decide +kernel) (by decide) g0 g1 ?_
        refine Fr.aldn (c := 73) (by decide +kernel : zi 182 90 = some (.aload_n 0, 1)) rfl ⟨by omega, by omega⟩ ?_
        refine Fr.dup (by decide +kernel : zi 182 91 = some (.dup, 1)) rfl ?_
        refine Fr.gI (c := 72) (ci := 8) (k := 29) (t := 0) 29 (by decide +kernel : zi 182 92 = some (.getfield 136, 3)) (by decide +kernel) (by decide +kernel) (by decide +kernel) (by decide) rfl ?_
        refine Fr.iconst (by decide +kernel : zi 182 95 = some (.iconst 1, 1)) (by decide) ?_
        refine Fr.iadd (by decide +kernel : zi 182 96 = some (.iadd, 1)) ?_
        refine Fr.pI (c := 72) (ci := 8) (k := 29) 29 (by decide +kernel : zi 182 97 = some (.putfield 136, 3)) (by decide +kernel) (by decide +kernel) (by decide +kernel) (by decide) rfl ?_
        refine Fr.aldn (c := 73) (by decide +kernel : zi 182 100 = some (.aload_n 0, 1)) rfl ⟨by omega, by omega⟩ ?_
        refine Fr.gI (c := 72) (ci := 8) (k := 29) (t := 0) 29 (by decide +kernel : zi 182 101 = some (.getfield 136, 3)) (by decide +kernel) (by decide +kernel) (by decide +kernel) (by decide) rfl ?_
        refine Fr.iconst (by decide +kernel : zi 182 104 = some (.iconst 1, 1)) (by decide) ?_
        refine Fr.isub (by decide +kernel : zi 182 105 = some (.isub, 1)) ?_
        exact Fr.retI (by decide +kernel : zi 182 106 = some (.ireturn, 1)) (by decide +kernel) h
      · have h := h.2 g9
        refine Fr.bipush (by decide +kernel : zi 182 57 = some (.bipush (-4), 2)) (by decide) ?_
        exact Fr.retI (by decide +kernel : zi 182 59 = some (.ireturn, 1)) (by decide +kernel) h
    · have h := h.2 g9
      refine Fr.bipush (by decide +kernel : zi 182 45 = some (.bipush (-2), 2)) (by decide) ?_
      exact Fr.retI (by decide +kernel : zi 182 47 = some (.ireturn, 1)) (by decide +kernel) h
-- 183 X8_clear
theorem f183_0 {xs : Nat → Int} {L : Nat} {d : Nat}  {s : Pl} {P : Int → Pl → Prop} (h : P (s 72 29) (zup s 72 29 0)) : Fr xs L T0 106 d 183 0 [some (rf 73), none] [] s (qi P) := by
  refine Fr.aldn (c := 73) (by decide +kernel : zi 183 0 = some (.aload_n 0, 1)) rfl ⟨by omega, by omega⟩ ?_
  refine Fr.gI (c := 72) (ci := 8) (k := 29) (t := 0) 29 (by decide +kernel : zi 183 1 = some (.getfield 136, 3)) (by decide +kernel) (by decide +kernel) (by decide +kernel) (by decide) rfl ?_
  refine Fr.istn (lv2 := [some (rf 73), some (it (s 72 29))]) (by decide +kernel : zi 183 4 = some (.istore_n 1, 1)) (Nat.le_of_ble_eq_true rfl) rfl ?_
  refine Fr.aldn (c := 73) (by decide +kernel : zi 183 5 = some (.aload_n 0, 1)) rfl ⟨by omega, by omega⟩ ?_
  refine Fr.iconst (by decide +kernel : zi 183 6 = some (.iconst 0, 1)) (by decide) ?_
  refine Fr.pI (c := 72) (ci := 8) (k := 29) 29 (by decide +kernel : zi 183 7 = some (.putfield 136, 3)) (by decide +kernel) (by decide +kernel) (by decide +kernel) (by decide) rfl ?_
  refine Fr.ildn (by decide +kernel : zi 183 10 = some (.iload_n 1, 1)) rfl ?_
  exact Fr.retI (by decide +kernel : zi 183 11 = some (.ireturn, 1)) (by decide +kernel) h
theorem e183 {xs : Nat → Int} {L : Nat} {d : Nat}  {s : Pl} {Q : Option AV → Pl → Prop} (hd : 1 ≤ d) (k : Fr xs L T0 106 (d - 1) 183 0 [some (rf 73), none] [] s Q) : Ev xs L T0 106 d 183 [rf 73] s Q := Ev.of (by decide) _ rfl hd k
-- 184 X8_keepNow
theorem f184_0 {xs : Nat → Int} {L : Nat} {d : Nat}  {s : Pl} {P : Pl → Prop} (h : Fr xs L T0 106 d 184 10 [some (rf 73), some (it 0)] [] (zup s 72 34 (s 72 2)) (qv P)) : Fr xs L T0 106 d 184 0 [some (rf 73), none] [] s (qv P) := by
  refine Fr.aldn (c := 73) (by decide +kernel : zi 184 0 = some (.aload_n 0, 1)) rfl ⟨by omega, by omega⟩ ?_
  refine Fr.aldn (c := 73) (by decide +kernel : zi 184 1 = some (.aload_n 0, 1)) rfl ⟨by omega, by omega⟩ ?_
  refine Fr.gI (c := 72) (ci := 8) (k := 2) (t := 0) 2 (by decide +kernel : zi 184 2 = some (.getfield 129, 3)) (by decide +kernel) (by decide +kernel) (by decide +kernel) (by decide) rfl ?_
  refine Fr.pI (c := 72) (ci := 8) (k := 34) 34 (by decide +kernel : zi 184 5 = some (.putfield 272, 3)) (by decide +kernel) (by decide +kernel) (by decide +kernel) (by decide) rfl ?_
  refine Fr.iconst (by decide +kernel : zi 184 8 = some (.iconst 0, 1)) (by decide) ?_
  refine Fr.istn (lv2 := [some (rf 73), some (it 0)]) (by decide +kernel : zi 184 9 = some (.istore_n 1, 1)) (Nat.le_of_ble_eq_true rfl) rfl ?_
  exact h
theorem e184 {xs : Nat → Int} {L : Nat} {d : Nat}  {s : Pl} {Q : Option AV → Pl → Prop} (hd : 1 ≤ d) (k : Fr xs L T0 106 (d - 1) 184 0 [some (rf 73), none] [] s Q) : Ev xs L T0 106 d 184 [rf 73] s Q := Ev.of (by decide) _ rfl hd k
theorem f184_10 {xs : Nat → Int} {L : Nat} {d : Nat} {v1 : Int} {s : Pl} {P : Pl → Prop} (h : ((6 ≤ v1 → P s) ∧ (¬ (6 ≤ v1) → (0 ≤ v1 ∧ v1 < 7) ∧ (0 ≤ v1 ∧ v1 < 7) ∧ Fr xs L T0 106 d 184 10 [some (rf 73), some (it (zw (v1 + 1)))] [] (zup s 92 v1 (s 75 v1)) (qv P)))) : Fr xs L T0 106 d 184 10 [some (rf 73), some (it v1)] [] s (qv P) := by
  refine Fr.ildn (by decide +kernel : zi 184 10 = some (.iload_n 1, 1)) rfl ?_
  refine Fr.bipush (by decide +kernel : zi 184 11 = some (.bipush 6, 2)) (by decide) ?_
  refine Fr.if2 (q := 34) (by decide +kernel : zi 184 13 = some (.if_icmp .ge 21, 3)) (by decide +kernel) (fun g9 => ?_) (fun g9 => ?_)
  · have h := h.1 g9
    exact Fr.retV (by decide +kernel : zi 184 34 = some (.return_, 1)) (by decide +kernel) h
  · have h := h.2 g9
    refine Fr.aldn (c := 73) (by decide +kernel : zi 184 16 = some (.aload_n 0, 1)) rfl ⟨by omega, by omega⟩ ?_
    refine Fr.gR (c := 72) (c2 := 93) (ci := 8) (k := 33) 33 (by decide +kernel : zi 184 17 = some (.getfield 72, 3)) (by decide +kernel) (by decide +kernel) (by decide +kernel) (by decide) rfl (fun q => q (72, 33, 93) (by decide +kernel)) ?_
    refine Fr.ildn (by decide +kernel : zi 184 20 = some (.iload_n 1, 1)) rfl ?_
    refine Fr.aldn (c := 73) (by decide +kernel : zi 184 21 = some (.aload_n 0, 1)) rfl ⟨by omega, by omega⟩ ?_
    refine Fr.gR (c := 72) (c2 := 76) (ci := 8) (k := 5) 5 (by decide +kernel : zi 184 22 = some (.getfield 16, 3)) (by decide +kernel) (by decide +kernel) (by decide +kernel) (by decide) rfl (fun q => q (72, 5, 76) (by decide +kernel)) ?_
    refine Fr.ildn (by decide +kernel : zi 184 25 = some (.iload_n 1, 1)) rfl ?_
    obtain ⟨⟨g0, g1⟩, h⟩ := h
    refine Fr.iald (c := 75) (N := 7) (by decide +kernel : zi 184 26 = some (.iaload, 1)) (by decide +kernel) (by decide) g0 g1 ?_
    obtain ⟨⟨g0, g1⟩, h⟩ := h
    refine Fr.iast (c := 92) (N := 7) (by decide +kernel : zi 184 27 = some (.iastore, 1)) (by decide +kernel) (by decide) g0 g1 ?_
    refine Fr.iinc (lv2 := [some (rf 73), some (it (zw (v1 + 1)))]) (by decide +kernel : zi 184 28 = some (.iinc 1 1, 3)) (Nat.le_of_ble_eq_true rfl) rfl rfl ?_
    refine Fr.goto (q := 10) (by decide +kernel : zi 184 31 = some (.goto (-21), 3)) (by decide +kernel) ?_
    exact h
-- 185 X8_layBack
theorem f185_0 {xs : Nat → Int} {L : Nat} {d : Nat}  {s : Pl} {P : Pl → Prop} (h : Fr xs L T0 106 d 185 10 [some (rf 73), some (it 0)] [] (zup s 72 2 (s 72 34)) (qv P)) : Fr xs L T0 106 d 185 0 [some (rf 73), none] [] s (qv P) := by
  refine Fr.aldn (c := 73) (by decide +kernel : zi 185 0 = some (.aload_n 0, 1)) rfl ⟨by omega, by omega⟩ ?_
  refine Fr.aldn (c := 73) (by decide +kernel : zi 185 1 = some (.aload_n 0, 1)) rfl ⟨by omega, by omega⟩ ?_
  refine Fr.gI (c := 72) (ci := 8) (k := 34) (t := 0) 34 (by decide +kernel : zi 185 2 = some (.getfield 272, 3)) (by decide +kernel) (by decide +kernel) (by decide +kernel) (by decide) rfl ?_
  refine Fr.pI (c := 72) (ci := 8) (k := 2) 2 (by decide +kernel : zi 185 5 = some (.putfield 129, 3)) (by decide +kernel) (by decide +kernel) (by decide +kernel) (by decide) rfl ?_
  refine Fr.iconst (by decide +kernel : zi 185 8 = some (.iconst 0, 1)) (by decide) ?_
  refine Fr.istn (lv2 := [some (rf 73), some (it 0)]) (by decide +kernel : zi 185 9 = some (.istore_n 1, 1)) (Nat.le_of_ble_eq_true rfl) rfl ?_
  exact h
theorem e185 {xs : Nat → Int} {L : Nat} {d : Nat}  {s : Pl} {Q : Option AV → Pl → Prop} (hd : 1 ≤ d) (k : Fr xs L T0 106 (d - 1) 185 0 [some (rf 73), none] [] s Q) : Ev xs L T0 106 d 185 [rf 73] s Q := Ev.of (by decide) _ rfl hd k
theorem f185_10 {xs : Nat → Int} {L : Nat} {d : Nat} {v1 : Int} {s : Pl} {P : Pl → Prop} (h : ((6 ≤ v1 → P s) ∧ (¬ (6 ≤ v1) → (0 ≤ v1 ∧ v1 < 7) ∧ (0 ≤ v1 ∧ v1 < 7) ∧ Fr xs L T0 106 d 185 10 [some (rf 73), some (it (zw (v1 + 1)))] [] (zup s 75 v1 (s 92 v1)) (qv P)))) : Fr xs L T0 106 d 185 10 [some (rf 73), some (it v1)] [] s (qv P) := by
  refine Fr.ildn (by decide +kernel : zi 185 10 = some (.iload_n 1, 1)) rfl ?_
  refine Fr.bipush (by decide +kernel : zi 185 11 = some (.bipush 6, 2)) (by decide) ?_
  refine Fr.if2 (q := 34) (by decide +kernel : zi 185 13 = some (.if_icmp .ge 21, 3)) (by decide +kernel) (fun g9 => ?_) (fun g9 => ?_)
  · have h := h.1 g9
    exact Fr.retV (by decide +kernel : zi 185 34 = some (.return_, 1)) (by decide +kernel) h
  · have h := h.2 g9
    refine Fr.aldn (c := 73) (by decide +kernel : zi 185 16 = some (.aload_n 0, 1)) rfl ⟨by omega, by omega⟩ ?_
    refine Fr.gR (c := 72) (c2 := 76) (ci := 8) (k := 5) 5 (by decide +kernel : zi 185 17 = some (.getfield 16, 3)) (by decide +kernel) (by decide +kernel) (by decide +kernel) (by decide) rfl (fun q => q (72, 5, 76) (by decide +kernel)) ?_
    refine Fr.ildn (by decide +kernel : zi 185 20 = some (.iload_n 1, 1)) rfl ?_
    refine Fr.aldn (c := 73) (by decide +kernel : zi 185 21 = some (.aload_n 0, 1)) rfl ⟨by omega, by omega⟩ ?_
    refine Fr.gR (c := 72) (c2 := 93) (ci := 8) (k := 33) 33 (by decide +kernel : zi 185 22 = some (.getfield 72, 3)) (by decide +kernel) (by decide +kernel) (by decide +kernel) (by decide) rfl (fun q => q (72, 33, 93) (by decide +kernel)) ?_
    refine Fr.ildn (by decide +kernel : zi 185 25 = some (.iload_n 1, 1)) rfl ?_
    obtain ⟨⟨g0, g1⟩, h⟩ := h
    refine Fr.iald (c := 92) (N := 7) (by decide +kernel : zi 185 26 = some (.iaload, 1)) (by decide +kernel) (by decide) g0 g1 ?_
    obtain ⟨⟨g0, g1⟩, h⟩ := h
    refine Fr.iast (c := 75) (N := 7) (by decide +kernel : zi 185 27 = some (.iastore, 1)) (by decide +kernel) (by decide) g0 g1 ?_
    refine Fr.iinc (lv2 := [some (rf 73), some (it (zw (v1 + 1)))]) (by decide +kernel : zi 185 28 = some (.iinc 1 1, 3)) (Nat.le_of_ble_eq_true rfl) rfl rfl ?_
    refine Fr.goto (q := 10) (by decide +kernel : zi 185 31 = some (.goto (-21), 3)) (by decide +kernel) ?_
    exact h
-- 186 X8_does
theorem f186_0 {xs : Nat → Int} {L : Nat} {d : Nat} {v1 : Int} {s : Pl} {P : Int → Pl → Prop} (h : (0 ≤ v1 ∧ v1 < 16) ∧ ((¬ s 89 v1 = 2 → (0 ≤ v1 ∧ v1 < 16) ∧ ((¬ s 89 v1 = 1 → (0 ≤ v1 ∧ v1 < 16) ∧ ((¬ s 90 v1 = s 72 2 → (0 ≤ v1 ∧ v1 < 16) ∧ Ev xs L T0 106 d 165 [rf 73, it (s 72 2), it (s 90 v1)] s (qi fun r2 s1 => (0 ≤ v1 ∧ v1 < 16) ∧ P r2 (zup s1 72 2 (s1 90 v1)))) ∧ (¬ (¬ s 90 v1 = s 72 2) → P (-1) s))) ∧ (¬ (¬ s 89 v1 = 1) → (0 ≤ v1 ∧ v1 < 16) ∧ (0 ≤ v1 ∧ v1 < 16) ∧ Ev xs L T0 106 d 176 [rf 73, it (s 90 v1), it (s 91 v1)] s (qi fun r4 s3 => ((¬ r4 = 0 → (0 ≤ v1 ∧ v1 < 16) ∧ (0 ≤ v1 ∧ v1 < 16) ∧ Ev xs L T0 106 d 177 [rf 73, it (s3 90 v1), it (s3 91 v1)] s3 (qv fun s5 => P 0 s5)) ∧ (¬ (¬ r4 = 0) → P (-1) s3)))))) ∧ (¬ (¬ s 89 v1 = 2) → (0 ≤ v1 ∧ v1 < 16) ∧ P (s 90 v1) s))) : Fr xs L T0 106 d 186 0 [some (rf 73), some (it v1), none] [] s (qi P) := by
  refine Fr.aldn (c := 73) (by decide +kernel : zi 186 0 = some (.aload_n 0, 1)) rfl ⟨by omega, by omega⟩ ?_
  refine Fr.gR (c := 72) (c2 := 90) (ci := 8) (k := 30) 30 (by decide +kernel : zi 186 1 = some (.getfield 63, 3)) (by decide +kernel) (by decide +kernel) (by decide +kernel) (by decide) rfl (fun q => q (72, 30, 90) (by decide +kernel)) ?_
  refine Fr.ildn (by decide +kernel : zi 186 4 = some (.iload_n 1, 1)) rfl ?_
  obtain ⟨⟨g0, g1⟩, h⟩ := h
  refine Fr.iald (c := 89) (N := 16) (by decide +kernel : zi 186 5 = some (.iaload, 1)) (by decide +kernel) (by decide) g0 g1 ?_
  refine Fr.iconst (by decide +kernel : zi 186 6 = some (.iconst 2, 1)) (by decide) ?_
  refine Fr.if2 (q := 17) (by decide +kernel : zi 186 7 = some (.if_icmp .ne 10, 3)) (by decide +kernel) (fun g9 => ?_) (fun g9 => ?_)
  · have h := h.1 g9
    refine Fr.aldn (c := 73) (by decide +kernel : zi 186 17 = some (.aload_n 0, 1)) rfl ⟨by omega, by omega⟩ ?_
    refine Fr.gR (c := 72) (c2 := 90) (ci := 8) (k := 30) 30 (by decide +kernel : zi 186 18 = some (.getfield 63, 3)) (by decide +kernel) (by decide +kernel) (by decide +kernel) (by decide) rfl (fun q => q (72, 30, 90) (by decide +kernel)) ?_
    refine Fr.ildn (by decide +kernel : zi 186 21 = some (.iload_n 1, 1)) rfl ?_
    obtain ⟨⟨g0, g1⟩, h⟩ := h
    refine Fr.iald (c := 89) (N := 16) (by decide +kernel : zi 186 22 = some (.iaload, 1)) (by decide +kernel) (by decide) g0 g1 ?_
    refine Fr.iconst (by decide +kernel : zi 186 23 = some (.iconst 1, 1)) (by decide) ?_
    refine Fr.if2 (q := 66) (by decide +kernel : zi 186 24 = some (.if_icmp .ne 42, 3)) (by decide +kernel) (fun g9 => ?_) (fun g9 => ?_)
    · have h := h.1 g9
      refine Fr.aldn (c := 73) (by decide +kernel : zi 186 66 = some (.aload_n 0, 1)) rfl ⟨by omega, by omega⟩ ?_
      refine Fr.gR (c := 72) (c2 := 91) (ci := 8) (k := 31) 31 (by decide +kernel : zi 186 67 = some (.getfield 66, 3)) (by decide +kernel) (by decide +kernel) (by decide +kernel) (by decide) rfl (fun q => q (72, 31, 91) (by decide +kernel)) ?_
      refine Fr.ildn (by decide +kernel : zi 186 70 = some (.iload_n 1, 1)) rfl ?_
      obtain ⟨⟨g0, g1⟩, h⟩ := h
      refine Fr.iald (c := 90) (N := 16) (by decide +kernel : zi 186 71 = some (.iaload, 1)) (by decide +kernel) (by decide) g0 g1 ?_
      refine Fr.aldn (c := 73) (by decide +kernel : zi 186 72 = some (.aload_n 0, 1)) rfl ⟨by omega, by omega⟩ ?_
      refine Fr.gI (c := 72) (ci := 8) (k := 2) (t := 0) 2 (by decide +kernel : zi 186 73 = some (.getfield 129, 3)) (by decide +kernel) (by decide +kernel) (by decide +kernel) (by decide) rfl ?_
      refine Fr.if2 (q := 81) (by decide +kernel : zi 186 76 = some (.if_icmp .ne 5, 3)) (by decide +kernel) (fun g9 => ?_) (fun g9 => ?_)
      · have h := h.1 g9
        refine Fr.aldn (c := 73) (by decide +kernel : zi 186 81 = some (.aload_n 0, 1)) rfl ⟨by omega, by omega⟩ ?_
        refine Fr.aldn (c := 73) (by decide +kernel : zi 186 82 = some (.aload_n 0, 1)) rfl ⟨by omega, by omega⟩ ?_
        refine Fr.gI (c := 72) (ci := 8) (k := 2) (t := 0) 2 (by decide +kernel : zi 186 83 = some (.getfield 129, 3)) (by decide +kernel) (by decide +kernel) (by decide +kernel) (by decide) rfl ?_
        refine Fr.aldn (c := 73) (by decide +kernel : zi 186 86 = some (.aload_n 0, 1)) rfl ⟨by omega, by omega⟩ ?_
        refine Fr.gR (c := 72) (c2 := 91) (ci := 8) (k := 31) 31 (by decide +kernel : zi 186 87 = some (.getfield 66, 3)) (by decide +kernel) (by decide +kernel) (by decide +kernel) (by decide) rfl (fun q => q (72, 31, 91) (by decide +kernel)) ?_
        refine Fr.ildn (by decide +kernel : zi 186 90 = some (.iload_n 1, 1)) rfl ?_
        obtain ⟨⟨g0, g1⟩, h⟩ := h
        refine Fr.iald (c := 90) (N := 16) (by decide +kernel : zi 186 91 = some (.iaload, 1)) (by decide +kernel) (by decide) g0 g1 ?_
        refine Fr.callI (y2 := 165) (na := 3) (as := [rf 73, it (s 72 2), it (s 90 v1)]) (rest := []) (by decide +kernel : zi 186 92 = some (.invokevirtual 243, 3)) rfl (by decide +kernel) (by decide +kernel) rfl rfl (zok_V rfl (by decide) (by decide +kernel) (by decide +kernel) (zrecv_c (c := 72) (by decide) (by decide +kernel)) rfl (Nat.le_of_ble_eq_true rfl)) h (fun r2 s1 h => ?_)
        refine Fr.istn (lv2 := [some (rf 73), some (it v1), some (it r2)]) (by decide +kernel : zi 186 95 = some (.istore_n 2, 1)) (Nat.le_of_ble_eq_true rfl) rfl ?_
        refine Fr.aldn (c := 73) (by decide +kernel : zi 186 96 = some (.aload_n 0, 1)) rfl ⟨by omega, by omega⟩ ?_
        refine Fr.aldn (c := 73) (by decide +kernel : zi 186 97 = some (.aload_n 0, 1)) rfl ⟨by omega, by omega⟩ ?_
        refine Fr.gR (c := 72) (c2 := 91) (ci := 8) (k := 31) 31 (by decide +kernel : zi 186 98 = some (.getfield 66, 3)) (by decide +kernel) (by decide +kernel) (by decide +kernel) (by decide) rfl (fun q => q (72, 31, 91) (by decide +kernel)) ?_
        refine Fr.ildn (by decide +kernel : zi 186 101 = some (.iload_n 1, 1)) rfl ?_
        obtain ⟨⟨g0, g1⟩, h⟩ := h
        refine Fr.iald (c := 90) (N := 16) (by decide +kernel : zi 186 102 = some (.iaload, 1)) (by decide +kernel) (by decide) g0 g1 ?_
        refine Fr.pI (c := 72) (ci := 8) (k := 2) 2 (by decide +kernel : zi 186 103 = some (.putfield 129, 3)) (by decide +kernel) (by decide +kernel) (by decide +kernel) (by decide) rfl ?_
        refine Fr.ildn (by decide +kernel : zi 186 106 = some (.iload_n 2, 1)) rfl ?_
        exact Fr.retI (by decide +kernel : zi 186 107 = some (.ireturn, 1)) (by decide +kernel) h
      · have h := h.2 g9
        refine Fr.iconst (by decide +kernel : zi 186 79 = some (.iconst (-1), 1)) (by decide) ?_
        exact Fr.retI (by decide +kernel : zi 186 80 = some (.ireturn, 1)) (by decide +kernel) h
    · have h := h.2 g9
      refine Fr.aldn (c := 73) (by decide +kernel : zi 186 27 = some (.aload_n 0, 1)) rfl ⟨by omega, by omega⟩ ?_
      refine Fr.aldn (c := 73) (by decide +kernel : zi 186 28 = some (.aload_n 0, 1)) rfl ⟨by omega, by omega⟩ ?_
      refine Fr.gR (c := 72) (c2 := 91) (ci := 8) (k := 31) 31 (by decide +kernel : zi 186 29 = some (.getfield 66, 3)) (by decide +kernel) (by decide +kernel) (by decide +kernel) (by decide) rfl (fun q => q (72, 31, 91) (by decide +kernel)) ?_
      refine Fr.ildn (by decide +kernel : zi 186 32 = some (.iload_n 1, 1)) rfl ?_
      obtain ⟨⟨g0, g1⟩, h⟩ := h
      refine Fr.iald (c := 90) (N := 16) (by decide +kernel : zi 186 33 = some (.iaload, 1)) (by decide +kernel) (by decide) g0 g1 ?_
      refine Fr.aldn (c := 73) (by decide +kernel : zi 186 34 = some (.aload_n 0, 1)) rfl ⟨by omega, by omega⟩ ?_
      refine Fr.gR (c := 72) (c2 := 92) (ci := 8) (k := 32) 32 (by decide +kernel : zi 186 35 = some (.getfield 69, 3)) (by decide +kernel) (by decide +kernel) (by decide +kernel) (by decide) rfl (fun q => q (72, 32, 92) (by decide +kernel)) ?_
      refine Fr.ildn (by decide +kernel : zi 186 38 = some (.iload_n 1, 1)) rfl ?_
      obtain ⟨⟨g0, g1⟩, h⟩ := h
      refine Fr.iald (c := 91) (N := 16) (by decide +kernel : zi 186 39 = some (.iaload, 1)) (by decide +kernel) (by decide) g0 g1 ?_
      refine Fr.callI (y2 := 176) (na := 3) (as := [rf 73, it (s 90 v1), it (s 91 v1)]) (rest := []) (by decide +kernel : zi 186 40 = some (.invokevirtual 266, 3)) rfl (by decide +kernel) (by decide +kernel) rfl rfl (zok_V rfl (by decide) (by decide +kernel) (by decide +kernel) (zrecv_c (c := 72) (by decide) (by decide +kernel)) rfl (Nat.le_of_ble_eq_true rfl)) h (fun r4 s3 h => ?_)
      refine Fr.if0 (q := 48) (by decide +kernel : zi 186 43 = some (.ifCond .ne 5, 3)) (by decide +kernel) (fun g9 => ?_) (fun g9 => ?_)
      · have h := h.1 g9
        refine Fr.aldn (c := 73) (by decide +kernel : zi 186 48 = some (.aload_n 0, 1)) rfl ⟨by omega, by omega⟩ ?_
        refine Fr.aldn (c := 73) (by decide +kernel : zi 186 49 = some (.aload_n 0, 1)) rfl ⟨by omega, by omega⟩ ?_
        refine Fr.gR (c := 72) (c2 := 91) (ci := 8) (k := 31) 31 (by decide +kernel : zi 186 50 = some (.getfield 66, 3)) (by decide +kernel) (by decide +kernel) (by decide +kernel) (by decide) rfl (fun q => q (72, 31, 91) (by decide +kernel)) ?_
        refine Fr.ildn (by decide +kernel : zi 186 53 = some (.iload_n 1, 1)) rfl ?_
        obtain ⟨⟨g0, g1⟩, h⟩ := h
        refine Fr.iald (c := 90) (N := 16) (by decide +kernel : zi 186 54 = some (.iaload, 1)) (by decide +kernel) (by decide) g0 g1 ?_
        refine Fr.aldn (c := 73) (by decide +kernel : zi 186 55 = some (.aload_n 0, 1)) rfl ⟨by omega, by omega⟩ ?_
        refine Fr.gR (c := 72) (c2 := 92) (ci := 8) (k := 32) 32 (by decide +kernel : zi 186 56 = some (.getfield 69, 3)) (by decide +kernel) (by decide +kernel) (by decide +kernel) (by decide) rfl (fun q => q (72, 32, 92) (by decide +kernel)) ?_
        refine Fr.ildn (by decide +kernel : zi 186 59 = some (.iload_n 1, 1)) rfl ?_
        obtain ⟨⟨g0, g1⟩, h⟩ := h
        refine Fr.iald (c := 91) (N := 16) (by decide +kernel : zi 186 60 = some (.iaload, 1)) (by decide +kernel) (by decide) g0 g1 ?_
        refine Fr.callV (y2 := 177) (na := 3) (as := [rf 73, it (s3 90 v1), it (s3 91 v1)]) (rest := []) (by decide +kernel : zi 186 61 = some (.invokevirtual 260, 3)) rfl (by decide +kernel) (by decide +kernel) rfl rfl (zok_V rfl (by decide) (by decide +kernel) (by decide +kernel) (zrecv_c (c := 72) (by decide) (by decide +kernel)) rfl (Nat.le_of_ble_eq_true rfl)) h (fun s5 h => ?_)
        refine Fr.iconst (by decide +kernel : zi 186 64 = some (.iconst 0, 1)) (by decide) ?_
        exact Fr.retI (by decide +kernel : zi 186 65 = some (.ireturn, 1)) (by decide +kernel) h
      · have h := h.2 g9
        refine Fr.iconst (by decide +kernel : zi 186 46 = some (.iconst (-1), 1)) (by decide) ?_
        exact Fr.retI (by decide +kernel : zi 186 47 = some (.ireturn, 1)) (by decide +kernel) h
  · have h := h.2 g9
    refine Fr.aldn (c := 73) (by decide +kernel : zi 186 10 = some (.aload_n 0, 1)) rfl ⟨by omega, by omega⟩ ?_
    refine Fr.gR (c := 72) (c2 := 91) (ci := 8) (k := 31) 31 (by decide +kernel : zi 186 11 = some (.getfield 66, 3)) (by decide +kernel) (by decide +kernel) (by decide +kernel) (by decide) rfl (fun q => q (72, 31, 91) (by decide +kernel)) ?_
    refine Fr.ildn (by decide +kernel : zi 186 14 = some (.iload_n 1, 1)) rfl ?_
    obtain ⟨⟨g0, g1⟩, h⟩ := h
    refine Fr.iald (c := 90) (N := 16) (by decide +kernel : zi 186 15 = some (.iaload, 1)) (by decide +kernel) (by decide) g0 g1 ?_
    exact Fr.retI (by decide +kernel : zi 186 16 = some (.ireturn, 1)) (by decide +kernel) h
theorem e186 {xs : Nat → Int} {L : Nat} {d : Nat} {v1 : Int} {s : Pl} {Q : Option AV → Pl → Prop} (hd : 1 ≤ d) (k : Fr xs L T0 106 (d - 1) 186 0 [some (rf 73), some (it v1), none] [] s Q) : Ev xs L T0 106 d 186 [rf 73, it v1] s Q := Ev.of (by decide) _ rfl hd k
-- 187 X8_judge
theorem f187_0 {xs : Nat → Int} {L : Nat} {d : Nat}  {s : Pl} {P : Int → Pl → Prop} (h : Ev xs L T0 106 d 184 [rf 73] s (qv fun s1 => Fr xs L T0 106 d 187 8 [some (rf 73), some (it (-1)), some (it 0)] [] s1 (qi P))) : Fr xs L T0 106 d 187 0 [some (rf 73), none, none] [] s (qi P) := by
  refine Fr.aldn (c := 73) (by decide +kernel : zi 187 0 = some (.aload_n 0, 1)) rfl ⟨by omega, by omega⟩ ?_
  refine Fr.callV (y2 := 184) (na := 1) (as := [rf 73]) (rest := []) (by decide +kernel : zi 187 1 = some (.invokevirtual 275, 3)) rfl (by decide +kernel) (by decide +kernel) rfl rfl (zok_V rfl (by decide) (by decide +kernel) (by decide +kernel) (zrecv_c (c := 72) (by decide) (by decide +kernel)) rfl (Nat.le_of_ble_eq_true rfl)) h (fun s1 h => ?_)
  refine Fr.iconst (by decide +kernel : zi 187 4 = some (.iconst (-1), 1)) (by decide) ?_
  refine Fr.istn (lv2 := [some (rf 73), some (it (-1)), none]) (by decide +kernel : zi 187 5 = some (.istore_n 1, 1)) (Nat.le_of_ble_eq_true rfl) rfl ?_
  refine Fr.iconst (by decide +kernel : zi 187 6 = some (.iconst 0, 1)) (by decide) ?_
  refine Fr.istn (lv2 := [some (rf 73), some (it (-1)), some (it 0)]) (by decide +kernel : zi 187 7 = some (.istore_n 2, 1)) (Nat.le_of_ble_eq_true rfl) rfl ?_
  exact h
theorem e187 {xs : Nat → Int} {L : Nat} {d : Nat}  {s : Pl} {Q : Option AV → Pl → Prop} (hd : 1 ≤ d) (k : Fr xs L T0 106 (d - 1) 187 0 [some (rf 73), none, none] [] s Q) : Ev xs L T0 106 d 187 [rf 73] s Q := Ev.of (by decide) _ rfl hd k
theorem f187_8 {xs : Nat → Int} {L : Nat} {d : Nat} {v1 : Int} {v2 : Int} {s : Pl} {P : Int → Pl → Prop} (h : ((s 72 29 ≤ v2 → Fr xs L T0 106 d 187 36 [some (rf 73), some (it v1), some (it v2)] [] s (qi P)) ∧ (¬ (s 72 29 ≤ v2) → ((0 ≤ v1 → Fr xs L T0 106 d 187 36 [some (rf 73), some (it v1), some (it v2)] [] s (qi P)) ∧ (¬ (0 ≤ v1) → Ev xs L T0 106 d 186 [rf 73, it v2] s (qi fun r2 s1 => ((0 ≤ r2 → Fr xs L T0 106 d 187 30 [some (rf 73), some (it v1), some (it v2)] [] s1 (qi P)) ∧ (¬ (0 ≤ r2) → Fr xs L T0 106 d 187 30 [some (rf 73), some (it v2), some (it v2)] [] s1 (qi P))))))))) : Fr xs L T0 106 d 187 8 [some (rf 73), some (it v1), some (it v2)] [] s (qi P) := by
  refine Fr.ildn (by decide +kernel : zi 187 8 = some (.iload_n 2, 1)) rfl ?_
  refine Fr.aldn (c := 73) (by decide +kernel : zi 187 9 = some (.aload_n 0, 1)) rfl ⟨by omega, by omega⟩ ?_
  refine Fr.gI (c := 72) (ci := 8) (k := 29) (t := 0) 29 (by decide +kernel : zi 187 10 = some (.getfield 136, 3)) (by decide +kernel) (by decide +kernel) (by decide +kernel) (by decide) rfl ?_
  refine Fr.if2 (q := 36) (by decide +kernel : zi 187 13 = some (.if_icmp .ge 23, 3)) (by decide +kernel) (fun g9 => ?_) (fun g9 => ?_)
  · have h := h.1 g9
    exact h
  · have h := h.2 g9
    refine Fr.ildn (by decide +kernel : zi 187 16 = some (.iload_n 1, 1)) rfl ?_
    refine Fr.if0 (q := 36) (by decide +kernel : zi 187 17 = some (.ifCond .ge 19, 3)) (by decide +kernel) (fun g9 => ?_) (fun g9 => ?_)
    · have h := h.1 g9
      exact h
    · have h := h.2 g9
      refine Fr.aldn (c := 73) (by decide +kernel : zi 187 20 = some (.aload_n 0, 1)) rfl ⟨by omega, by omega⟩ ?_
      refine Fr.ildn (by decide +kernel : zi 187 21 = some (.iload_n 2, 1)) rfl ?_
      refine Fr.callI (y2 := 186) (na := 2) (as := [rf 73, it v2]) (rest := []) (by decide +kernel : zi 187 22 = some (.invokevirtual 278, 3)) rfl (by decide +kernel) (by decide +kernel) rfl rfl (zok_V rfl (by decide) (by decide +kernel) (by decide +kernel) (zrecv_c (c := 72) (by decide) (by decide +kernel)) rfl (Nat.le_of_ble_eq_true rfl)) h (fun r2 s1 h => ?_)
      refine Fr.if0 (q := 30) (by decide +kernel : zi 187 25 = some (.ifCond .ge 5, 3)) (by decide +kernel) (fun g9 => ?_) (fun g9 => ?_)
      · have h := h.1 g9
        exact h
      · have h := h.2 g9
        refine Fr.ildn (by decide +kernel : zi 187 28 = some (.iload_n 2, 1)) rfl ?_
        refine Fr.istn (lv2 := [some (rf 73), some (it v2), some (it v2)]) (by decide +kernel : zi 187 29 = some (.istore_n 1, 1)) (Nat.le_of_ble_eq_true rfl) rfl ?_
        exact h
theorem f187_30 {xs : Nat → Int} {L : Nat} {d : Nat} {v1 : Int} {v2 : Int} {s : Pl} {P : Int → Pl → Prop} (h : Fr xs L T0 106 d 187 8 [some (rf 73), some (it v1), some (it (zw (v2 + 1)))] [] s (qi P)) : Fr xs L T0 106 d 187 30 [some (rf 73), some (it v1), some (it v2)] [] s (qi P) := by
  refine Fr.iinc (lv2 := [some (rf 73), some (it v1), some (it (zw (v2 + 1)))]) (by decide +kernel : zi 187 30 = some (.iinc 2 1, 3)) (Nat.le_of_ble_eq_true rfl) rfl rfl ?_
  refine Fr.goto (q := 8) (by decide +kernel : zi 187 33 = some (.goto (-25), 3)) (by decide +kernel) ?_
  exact h
theorem f187_36 {xs : Nat → Int} {L : Nat} {d : Nat} {v1 : Int} {v2 : Int} {s : Pl} {P : Int → Pl → Prop} (h : Ev xs L T0 106 d 185 [rf 73] s (qv fun s1 => P v1 s1)) : Fr xs L T0 106 d 187 36 [some (rf 73), some (it v1), some (it v2)] [] s (qi P) := by
  refine Fr.aldn (c := 73) (by decide +kernel : zi 187 36 = some (.aload_n 0, 1)) rfl ⟨by omega, by omega⟩ ?_
  refine Fr.callV (y2 := 185) (na := 1) (as := [rf 73]) (rest := []) (by decide +kernel : zi 187 37 = some (.invokevirtual 281, 3)) rfl (by decide +kernel) (by decide +kernel) rfl rfl (zok_V rfl (by decide) (by decide +kernel) (by decide +kernel) (zrecv_c (c := 72) (by decide) (by decide +kernel)) rfl (Nat.le_of_ble_eq_true rfl)) h (fun s1 h => ?_)
  refine Fr.ildn (by decide +kernel : zi 187 40 = some (.iload_n 1, 1)) rfl ?_
  exact Fr.retI (by decide +kernel : zi 187 41 = some (.ireturn, 1)) (by decide +kernel) h
-- 188 X8_doMoves
theorem f188_0 {xs : Nat → Int} {L : Nat} {d : Nat} {v1 : Int} {s : Pl} {P : Pl → Prop} (h : Ev xs L T0 106 d 184 [rf 73] s (qv fun s1 => Fr xs L T0 106 d 188 18 [some (rf 73), some (it v1), some (it 0), some (it 0), none, none] [] (zup (zup s1 72 35 0) 72 36 0) (qv P))) : Fr xs L T0 106 d 188 0 [some (rf 73), some (it v1), none, none, none, none] [] s (qv P) := by
  refine Fr.aldn (c := 73) (by decide +kernel : zi 188 0 = some (.aload_n 0, 1)) rfl ⟨by omega, by omega⟩ ?_
  refine Fr.callV (y2 := 184) (na := 1) (as := [rf 73]) (rest := []) (by decide +kernel : zi 188 1 = some (.invokevirtual 275, 3)) rfl (by decide +kernel) (by decide +kernel) rfl rfl (zok_V rfl (by decide) (by decide +kernel) (by decide +kernel) (zrecv_c (c := 72) (by decide) (by decide +kernel)) rfl (Nat.le_of_ble_eq_true rfl)) h (fun s1 h => ?_)
  refine Fr.aldn (c := 73) (by decide +kernel : zi 188 4 = some (.aload_n 0, 1)) rfl ⟨by omega, by omega⟩ ?_
  refine Fr.iconst (by decide +kernel : zi 188 5 = some (.iconst 0, 1)) (by decide) ?_
  refine Fr.pI (c := 72) (ci := 8) (k := 35) 35 (by decide +kernel : zi 188 6 = some (.putfield 284, 3)) (by decide +kernel) (by decide +kernel) (by decide +kernel) (by decide) rfl ?_
  refine Fr.aldn (c := 73) (by decide +kernel : zi 188 9 = some (.aload_n 0, 1)) rfl ⟨by omega, by omega⟩ ?_
  refine Fr.iconst (by decide +kernel : zi 188 10 = some (.iconst 0, 1)) (by decide) ?_
  refine Fr.pI (c := 72) (ci := 8) (k := 36) 36 (by decide +kernel : zi 188 11 = some (.putfield 287, 3)) (by decide +kernel) (by decide +kernel) (by decide +kernel) (by decide) rfl ?_
  refine Fr.iconst (by decide +kernel : zi 188 14 = some (.iconst 0, 1)) (by decide) ?_
  refine Fr.istn (lv2 := [some (rf 73), some (it v1), some (it 0), none, none, none]) (by decide +kernel : zi 188 15 = some (.istore_n 2, 1)) (Nat.le_of_ble_eq_true rfl) rfl ?_
  refine Fr.iconst (by decide +kernel : zi 188 16 = some (.iconst 0, 1)) (by decide) ?_
  refine Fr.istn (lv2 := [some (rf 73), some (it v1), some (it 0), some (it 0), none, none]) (by decide +kernel : zi 188 17 = some (.istore_n 3, 1)) (Nat.le_of_ble_eq_true rfl) rfl ?_
  exact h
theorem e188 {xs : Nat → Int} {L : Nat} {d : Nat} {v1 : Int} {s : Pl} {Q : Option AV → Pl → Prop} (hd : 1 ≤ d) (k : Fr xs L T0 106 (d - 1) 188 0 [some (rf 73), some (it v1), none, none, none, none] [] s Q) : Ev xs L T0 106 d 188 [rf 73, it v1] s Q := Ev.of (by decide) _ rfl hd k
theorem f188_18 {xs : Nat → Int} {L : Nat} {d : Nat} {v1 : Int} {v2 : Int} {v3 : Int} {w4 : Option AV} {w5 : Option AV} {s : Pl} {P : Pl → Prop} (h : ((v1 ≤ v3 → P s) ∧ (¬ (v1 ≤ v3) → Ev xs L T0 106 d 186 [rf 73, it v3] s (qi fun r2 s1 => ((r2 ≤ 0 → Fr xs L T0 106 d 188 46 [some (rf 73), some (it v1), some (it v2), some (it v3), some (it r2), w5] [] s1 (qv P)) ∧ (¬ (r2 ≤ 0) → Fr xs L T0 106 d 188 46 [some (rf 73), some (it v1), some (it v2), some (it v3), some (it r2), w5] [] (zup s1 72 35 (zw ((s1 72 35) + r2))) (qv P))))))) : Fr xs L T0 106 d 188 18 [some (rf 73), some (it v1), some (it v2), some (it v3), w4, w5] [] s (qv P) := by
  refine Fr.ildn (by decide +kernel : zi 188 18 = some (.iload_n 3, 1)) rfl ?_
  refine Fr.ildn (by decide +kernel : zi 188 19 = some (.iload_n 1, 1)) rfl ?_
  refine Fr.if2 (q := 126) (by decide +kernel : zi 188 20 = some (.if_icmp .ge 106, 3)) (by decide +kernel) (fun g9 => ?_) (fun g9 => ?_)
  · have h := h.1 g9
    exact Fr.retV (by decide +kernel : zi 188 126 = some (.return_, 1)) (by decide +kernel) h
  · have h := h.2 g9
    refine Fr.aldn (c := 73) (by decide +kernel : zi 188 23 = some (.aload_n 0, 1)) rfl ⟨by omega, by omega⟩ ?_
    refine Fr.ildn (by decide +kernel : zi 188 24 = some (.iload_n 3, 1)) rfl ?_
    refine Fr.callI (y2 := 186) (na := 2) (as := [rf 73, it v3]) (rest := []) (by decide +kernel : zi 188 25 = some (.invokevirtual 278, 3)) rfl (by decide +kernel) (by decide +kernel) rfl rfl (zok_V rfl (by decide) (by decide +kernel) (by decide +kernel) (zrecv_c (c := 72) (by decide) (by decide +kernel)) rfl (Nat.le_of_ble_eq_true rfl)) h (fun r2 s1 h => ?_)
    refine Fr.ist (lv2 := [some (rf 73), some (it v1), some (it v2), some (it v3), some (it r2), w5]) (by decide +kernel : zi 188 28 = some (.istore 4, 2)) (Nat.le_of_ble_eq_true rfl) rfl ?_
    refine Fr.ild (by decide +kernel : zi 188 30 = some (.iload 4, 2)) rfl ?_
    refine Fr.if0 (q := 46) (by decide +kernel : zi 188 32 = some (.ifCond .le 14, 3)) (by decide +kernel) (fun g9 => ?_) (fun g9 => ?_)
    · have h := h.1 g9
      exact h
    · have h := h.2 g9
      refine Fr.aldn (c := 73) (by decide +kernel : zi 188 35 = some (.aload_n 0, 1)) rfl ⟨by omega, by omega⟩ ?_
      refine Fr.dup (by decide +kernel : zi 188 36 = some (.dup, 1)) rfl ?_
      refine Fr.gI (c := 72) (ci := 8) (k := 35) (t := 0) 35 (by decide +kernel : zi 188 37 = some (.getfield 284, 3)) (by decide +kernel) (by decide +kernel) (by decide +kernel) (by decide) rfl ?_
      refine Fr.ild (by decide +kernel : zi 188 40 = some (.iload 4, 2)) rfl ?_
      refine Fr.iadd (by decide +kernel : zi 188 42 = some (.iadd, 1)) ?_
      refine Fr.pI (c := 72) (ci := 8) (k := 35) 35 (by decide +kernel : zi 188 43 = some (.putfield 284, 3)) (by decide +kernel) (by decide +kernel) (by decide +kernel) (by decide) rfl ?_
      exact h
theorem f188_46 {xs : Nat → Int} {L : Nat} {d : Nat} {v1 : Int} {v2 : Int} {v3 : Int} {v4 : Int} {w5 : Option AV} {s : Pl} {P : Pl → Prop} (h : Fr xs L T0 106 d 188 49 [some (rf 73), some (it v1), some (it v2), some (it v3), some (it v4), some (it 0)] [] s (qv P)) : Fr xs L T0 106 d 188 46 [some (rf 73), some (it v1), some (it v2), some (it v3), some (it v4), w5] [] s (qv P) := by
  refine Fr.iconst (by decide +kernel : zi 188 46 = some (.iconst 0, 1)) (by decide) ?_
  refine Fr.ist (lv2 := [some (rf 73), some (it v1), some (it v2), some (it v3), some (it v4), some (it 0)]) (by decide +kernel : zi 188 47 = some (.istore 5, 2)) (Nat.le_of_ble_eq_true rfl) rfl ?_
  exact h
theorem f188_49 {xs : Nat → Int} {L : Nat} {d : Nat} {v1 : Int} {v2 : Int} {v3 : Int} {v4 : Int} {v5 : Int} {s : Pl} {P : Pl → Prop} (h : ((s 72 3 ≤ v5 → Fr xs L T0 106 d 188 18 [some (rf 73), some (it v1), some (it v2), some (it (zw (v3 + 1))), some (it v4), some (it v5)] [] s (qv P)) ∧ (¬ (s 72 3 ≤ v5) → (0 ≤ v5 ∧ v5 < 7) ∧ (0 ≤ v5 ∧ v5 < 7) ∧ ((¬ s 75 v5 = s 76 v5 → Fr xs L T0 106 d 188 114 [some (rf 73), some (it v1), some (it v2), some (it v3), some (it v4), some (it v5)] [] s (qv P)) ∧ (¬ (¬ s 75 v5 = s 76 v5) → ((¬ zand (zshr v2 v5) 1 = 1 → Ev xs L T0 106 d 166 [rf 73, it v5, it (s 72 35)] s (qi fun r2 s1 => Fr xs L T0 106 d 188 114 [some (rf 73), some (it v1), some (it (zor v2 (zshl 1 v5))), some (it v3), some (it v4), some (it v5)] [] (zup s1 72 36 (zw ((s 72 36) + r2))) (qv P))) ∧ (¬ (¬ zand (zshr v2 v5) 1 = 1) → Fr xs L T0 106 d 188 114 [some (rf 73), some (it v1), some (it v2), some (it v3), some (it v4), some (it v5)] [] s (qv P)))))))) : Fr xs L T0 106 d 188 49 [some (rf 73), some (it v1), some (it v2), some (it v3), some (it v4), some (it v5)] [] s (qv P) := by
  refine Fr.ild (by decide +kernel : zi 188 49 = some (.iload 5, 2)) rfl ?_
  refine Fr.aldn (c := 73) (by decide +kernel : zi 188 51 = some (.aload_n 0, 1)) rfl ⟨by omega, by omega⟩ ?_
  refine Fr.gI (c := 72) (ci := 8) (k := 3) (t := 0) 3 (by decide +kernel : zi 188 52 = some (.getfield 122, 3)) (by decide +kernel) (by decide +kernel) (by decide +kernel) (by decide) rfl ?_
  refine Fr.if2 (q := 120) (by decide +kernel : zi 188 55 = some (.if_icmp .ge 65, 3)) (by decide +kernel) (fun g9 => ?_) (fun g9 => ?_)
  · have h := h.1 g9
    refine Fr.iinc (lv2 := [some (rf 73), some (it v1), some (it v2), some (it (zw (v3 + 1))), some (it v4), some (it v5)]) (by decide +kernel : zi 188 120 = some (.iinc 3 1, 3)) (Nat.le_of_ble_eq_true rfl) rfl rfl ?_
    refine Fr.goto (q := 18) (by decide +kernel : zi 188 123 = some (.goto (-105), 3)) (by decide +kernel) ?_
    exact h
  · have h := h.2 g9
    refine Fr.aldn (c := 73) (by decide +kernel : zi 188 58 = some (.aload_n 0, 1)) rfl ⟨by omega, by omega⟩ ?_
    refine Fr.gR (c := 72) (c2 := 76) (ci := 8) (k := 5) 5 (by decide +kernel : zi 188 59 = some (.getfield 16, 3)) (by decide +kernel) (by decide +kernel) (by decide +kernel) (by decide) rfl (fun q => q (72, 5, 76) (by decide +kernel)) ?_
    refine Fr.ild (by decide +kernel : zi 188 62 = some (.iload 5, 2)) rfl ?_
    obtain ⟨⟨g0, g1⟩, h⟩ := h
    refine Fr.iald (c := 75) (N := 7) (by decide +kernel : zi 188 64 = some (.iaload, 1)) (by decide +kernel) (by decide) g0 g1 ?_
    refine Fr.aldn (c := 73) (by decide +kernel : zi 188 65 = some (.aload_n 0, 1)) rfl ⟨by omega, by omega⟩ ?_
    refine Fr.gR (c := 72) (c2 := 77) (ci := 8) (k := 6) 6 (by decide +kernel : zi 188 66 = some (.getfield 19, 3)) (by decide +kernel) (by decide +kernel) (by decide +kernel) (by decide) rfl (fun q => q (72, 6, 77) (by decide +kernel)) ?_
    refine Fr.ild (by decide +kernel : zi 188 69 = some (.iload 5, 2)) rfl ?_
    obtain ⟨⟨g0, g1⟩, h⟩ := h
    refine Fr.iald (c := 76) (N := 7) (by decide +kernel : zi 188 71 = some (.iaload, 1)) (by decide +kernel) (by decide) g0 g1 ?_
    refine Fr.if2 (q := 114) (by decide +kernel : zi 188 72 = some (.if_icmp .ne 42, 3)) (by decide +kernel) (fun g9 => ?_) (fun g9 => ?_)
    · have h := h.1 g9
      exact h
    · have h := h.2 g9
      refine Fr.ildn (by decide +kernel : zi 188 75 = some (.iload_n 2, 1)) rfl ?_
      refine Fr.ild (by decide +kernel : zi 188 76 = some (.iload 5, 2)) rfl ?_
      refine Fr.ishr (by decide +kernel : zi 188 78 = some (.ishr, 1)) ?_
      refine Fr.iconst (by decide +kernel : zi 188 79 = some (.iconst 1, 1)) (by decide) ?_
      refine Fr.iand (by decide +kernel : zi 188 80 = some (.iand, 1)) ?_
      refine Fr.iconst (by decide +kernel : zi 188 81 = some (.iconst 1, 1)) (by decide) ?_
      refine Fr.if2 (q := 88) (by decide +kernel : zi 188 82 = some (.if_icmp .ne 6, 3)) (by decide +kernel) (fun g9 => ?_) (fun g9 => ?_)
      · have h := h.1 g9
        refine Fr.ildn (by decide +kernel : zi 188 88 = some (.iload_n 2, 1)) rfl ?_
        refine Fr.iconst (by decide +kernel : zi 188 89 = some (.iconst 1, 1)) (by decide) ?_
        refine Fr.ild (by decide +kernel : zi 188 90 = some (.iload 5, 2)) rfl ?_
        refine Fr.ishl (by decide +kernel : zi 188 92 = some (.ishl, 1)) ?_
        refine Fr.ior (by decide +kernel : zi 188 93 = some (.ior, 1)) ?_
        refine Fr.istn (lv2 := [some (rf 73), some (it v1), some (it (zor v2 (zshl 1 v5))), some (it v3), some (it v4), some (it v5)]) (by decide +kernel : zi 188 94 = some (.istore_n 2, 1)) (Nat.le_of_ble_eq_true rfl) rfl ?_
        refine Fr.aldn (c := 73) (by decide +kernel : zi 188 95 = some (.aload_n 0, 1)) rfl ⟨by omega, by omega⟩ ?_
        refine Fr.dup (by decide +kernel : zi 188 96 = some (.dup, 1)) rfl ?_
        refine Fr.gI (c := 72) (ci := 8) (k := 36) (t := 0) 36 (by decide +kernel : zi 188 97 = some (.getfield 287, 3)) (by decide +kernel) (by decide +kernel) (by decide +kernel) (by decide) rfl ?_
        refine Fr.aldn (c := 73) (by decide +kernel : zi 188 100 = some (.aload_n 0, 1)) rfl ⟨by omega, by omega⟩ ?_
        refine Fr.ild (by decide +kernel : zi 188 101 = some (.iload 5, 2)) rfl ?_
        refine Fr.aldn (c := 73) (by decide +kernel : zi 188 103 = some (.aload_n 0, 1)) rfl ⟨by omega, by omega⟩ ?_
        refine Fr.gI (c := 72) (ci := 8) (k := 35) (t := 0) 35 (by decide +kernel : zi 188 104 = some (.getfield 284, 3)) (by decide +kernel) (by decide +kernel) (by decide +kernel) (by decide) rfl ?_
        refine Fr.callI (y2 := 166) (na := 3) (as := [rf 73, it v5, it (s 72 35)]) (rest := [it (s 72 36), rf 73]) (by decide +kernel : zi 188 107 = some (.invokevirtual 247, 3)) rfl (by decide +kernel) (by decide +kernel) rfl rfl (zok_V rfl (by decide) (by decide +kernel) (by decide +kernel) (zrecv_c (c := 72) (by decide) (by decide +kernel)) rfl (Nat.le_of_ble_eq_true rfl)) h (fun r2 s1 h => ?_)
        refine Fr.iadd (by decide +kernel : zi 188 110 = some (.iadd, 1)) ?_
        refine Fr.pI (c := 72) (ci := 8) (k := 36) 36 (by decide +kernel : zi 188 111 = some (.putfield 287, 3)) (by decide +kernel) (by decide +kernel) (by decide +kernel) (by decide) rfl ?_
        exact h
      · have h := h.2 g9
        refine Fr.goto (q := 114) (by decide +kernel : zi 188 85 = some (.goto 29, 3)) (by decide +kernel) ?_
        exact h
theorem f188_114 {xs : Nat → Int} {L : Nat} {d : Nat} {v1 : Int} {v2 : Int} {v3 : Int} {v4 : Int} {v5 : Int} {s : Pl} {P : Pl → Prop} (h : Fr xs L T0 106 d 188 49 [some (rf 73), some (it v1), some (it v2), some (it v3), some (it v4), some (it (zw (v5 + 1)))] [] s (qv P)) : Fr xs L T0 106 d 188 114 [some (rf 73), some (it v1), some (it v2), some (it v3), some (it v4), some (it v5)] [] s (qv P) := by
  refine Fr.iinc (lv2 := [some (rf 73), some (it v1), some (it v2), some (it v3), some (it v4), some (it (zw (v5 + 1)))]) (by decide +kernel : zi 188 114 = some (.iinc 5 1, 3)) (Nat.le_of_ble_eq_true rfl) rfl rfl ?_
  refine Fr.goto (q := 49) (by decide +kernel : zi 188 117 = some (.goto (-68), 3)) (by decide +kernel) ?_
  exact h
-- 189 X8_run
theorem f189_0 {xs : Nat → Int} {L : Nat} {d : Nat} {v1 : Int} {v2 : Int} {s : Pl} {P : Int → Pl → Prop} (h : Ev xs L T0 106 d 132 [it v1, it 0, it (s 72 29)] s (qi fun r2 s1 => ((¬ r2 = 0 → Ev xs L T0 106 d 132 [it v2, it 0, it 3] s1 (qi fun r4 s3 => ((¬ r4 = 0 → Ev xs L T0 106 d 188 [rf 73, it v1] s3 (qv fun s5 => ((¬ v2 = 0 → ((¬ v2 = 1 → ((¬ v2 = 2 → Fr xs L T0 106 d 189 71 [some (rf 73), some (it v1), some (it v2), none] [it (s5 72 36)] s5 (qi P)) ∧ (¬ (¬ v2 = 2) → Ev xs L T0 106 d 181 [rf 73] s5 (qi fun r7 s6 => Fr xs L T0 106 d 189 71 [some (rf 73), some (it v1), some (it v2), none] [it r7] s6 (qi P))))) ∧ (¬ (¬ v2 = 1) → Fr xs L T0 106 d 189 71 [some (rf 73), some (it v1), some (it v2), none] [it (s5 72 2)] s5 (qi P)))) ∧ (¬ (¬ v2 = 0) → Fr xs L T0 106 d 189 71 [some (rf 73), some (it v1), some (it v2), none] [it (s5 72 35)] s5 (qi P))))) ∧ (¬ (¬ r4 = 0) → P (-7) s3)))) ∧ (¬ (¬ r2 = 0) → P (-5) s1)))) : Fr xs L T0 106 d 189 0 [some (rf 73), some (it v1), some (it v2), none] [] s (qi P) := by
  refine Fr.ildn (by decide +kernel : zi 189 0 = some (.iload_n 1, 1)) rfl ?_
  refine Fr.iconst (by decide +kernel : zi 189 1 = some (.iconst 0, 1)) (by decide) ?_
  refine Fr.aldn (c := 73) (by decide +kernel : zi 189 2 = some (.aload_n 0, 1)) rfl ⟨by omega, by omega⟩ ?_
  refine Fr.gI (c := 72) (ci := 8) (k := 29) (t := 0) 29 (by decide +kernel : zi 189 3 = some (.getfield 136, 3)) (by decide +kernel) (by decide +kernel) (by decide +kernel) (by decide) rfl ?_
  refine Fr.callI (y2 := 132) (na := 3) (as := [it v1, it 0, it (s 72 29)]) (rest := []) (by decide +kernel : zi 189 6 = some (.invokestatic 118, 3)) rfl (by decide +kernel) (by decide +kernel) rfl rfl (zok_S rfl (by decide) (by decide +kernel) rfl (Nat.le_of_ble_eq_true rfl)) h (fun r2 s1 h => ?_)
  refine Fr.if0 (q := 15) (by decide +kernel : zi 189 9 = some (.ifCond .ne 6, 3)) (by decide +kernel) (fun g9 => ?_) (fun g9 => ?_)
  · have h := h.1 g9
    refine Fr.ildn (by decide +kernel : zi 189 15 = some (.iload_n 2, 1)) rfl ?_
    refine Fr.iconst (by decide +kernel : zi 189 16 = some (.iconst 0, 1)) (by decide) ?_
    refine Fr.iconst (by decide +kernel : zi 189 17 = some (.iconst 3, 1)) (by decide) ?_
    refine Fr.callI (y2 := 132) (na := 3) (as := [it v2, it 0, it 3]) (rest := []) (by decide +kernel : zi 189 18 = some (.invokestatic 118, 3)) rfl (by decide +kernel) (by decide +kernel) rfl rfl (zok_S rfl (by decide) (by decide +kernel) rfl (Nat.le_of_ble_eq_true rfl)) h (fun r4 s3 h => ?_)
    refine Fr.if0 (q := 27) (by decide +kernel : zi 189 21 = some (.ifCond .ne 6, 3)) (by decide +kernel) (fun g9 => ?_) (fun g9 => ?_)
    · have h := h.1 g9
      refine Fr.aldn (c := 73) (by decide +kernel : zi 189 27 = some (.aload_n 0, 1)) rfl ⟨by omega, by omega⟩ ?_
      refine Fr.ildn (by decide +kernel : zi 189 28 = some (.iload_n 1, 1)) rfl ?_
      refine Fr.callV (y2 := 188) (na := 2) (as := [rf 73, it v1]) (rest := []) (by decide +kernel : zi 189 29 = some (.invokevirtual 290, 3)) rfl (by decide +kernel) (by decide +kernel) rfl rfl (zok_V rfl (by decide) (by decide +kernel) (by decide +kernel) (zrecv_c (c := 72) (by decide) (by decide +kernel)) rfl (Nat.le_of_ble_eq_true rfl)) h (fun s5 h => ?_)
      refine Fr.ildn (by decide +kernel : zi 189 32 = some (.iload_n 2, 1)) rfl ?_
      refine Fr.if0 (q := 43) (by decide +kernel : zi 189 33 = some (.ifCond .ne 10, 3)) (by decide +kernel) (fun g9 => ?_) (fun g9 => ?_)
      · have h := h.1 g9
        refine Fr.ildn (by decide +kernel : zi 189 43 = some (.iload_n 2, 1)) rfl ?_
        refine Fr.iconst (by decide +kernel : zi 189 44 = some (.iconst 1, 1)) (by decide) ?_
        refine Fr.if2 (q := 55) (by decide +kernel : zi 189 45 = some (.if_icmp .ne 10, 3)) (by decide +kernel) (fun g9 => ?_) (fun g9 => ?_)
        · have h := h.1 g9
          refine Fr.ildn (by decide +kernel : zi 189 55 = some (.iload_n 2, 1)) rfl ?_
          refine Fr.iconst (by decide +kernel : zi 189 56 = some (.iconst 2, 1)) (by decide) ?_
          refine Fr.if2 (q := 67) (by decide +kernel : zi 189 57 = some (.if_icmp .ne 10, 3)) (by decide +kernel) (fun g9 => ?_) (fun g9 => ?_)
          · have h := h.1 g9
            refine Fr.aldn (c := 73) (by decide +kernel : zi 189 67 = some (.aload_n 0, 1)) rfl ⟨by omega, by omega⟩ ?_
            refine Fr.gI (c := 72) (ci := 8) (k := 36) (t := 0) 36 (by decide +kernel : zi 189 68 = some (.getfield 287, 3)) (by decide +kernel) (by decide +kernel) (by decide +kernel) (by decide) rfl ?_
            exact h
          · have h := h.2 g9
            refine Fr.aldn (c := 73) (by decide +kernel : zi 189 60 = some (.aload_n 0, 1)) rfl ⟨by omega, by omega⟩ ?_
            refine Fr.callI (y2 := 181) (na := 1) (as := [rf 73]) (rest := []) (by decide +kernel : zi 189 61 = some (.invokevirtual 293, 3)) rfl (by decide +kernel) (by decide +kernel) rfl rfl (zok_V rfl (by decide) (by decide +kernel) (by decide +kernel) (zrecv_c (c := 72) (by decide) (by decide +kernel)) rfl (Nat.le_of_ble_eq_true rfl)) h (fun r7 s6 h => ?_)
            refine Fr.goto (q := 71) (by decide +kernel : zi 189 64 = some (.goto 7, 3)) (by decide +kernel) ?_
            exact h
        · have h := h.2 g9
          refine Fr.aldn (c := 73) (by decide +kernel : zi 189 48 = some (.aload_n 0, 1)) rfl ⟨by omega, by omega⟩ ?_
          refine Fr.gI (c := 72) (ci := 8) (k := 2) (t := 0) 2 (by decide +kernel : zi 189 49 = some (.getfield 129, 3)) (by decide +kernel) (by decide +kernel) (by decide +kernel) (by decide) rfl ?_
          refine Fr.goto (q := 71) (by decide +kernel : zi 189 52 = some (.goto 19, 3)) (by decide +kernel) ?_
          exact h
      · have h := h.2 g9
        refine Fr.aldn (c := 73) (by decide +kernel : zi 189 36 = some (.aload_n 0, 1)) rfl ⟨by omega, by omega⟩ ?_
        refine Fr.gI (c := 72) (ci := 8) (k := 35) (t := 0) 35 (by decide +kernel : zi 189 37 = some (.getfield 284, 3)) (by decide +kernel) (by decide +kernel) (by decide +kernel) (by decide) rfl ?_
        refine Fr.goto (q := 71) (by decide +kernel : zi 189 40 = some (.goto 31, 3)) (by decide +kernel) ?_
        exact h
    · have h := h.2 g9
      refine Fr.bipush (by decide +kernel : zi 189 24 = some (.bipush (-7), 2)) (by decide) ?_
      exact Fr.retI (by decide +kernel : zi 189 26 = some (.ireturn, 1)) (by decide +kernel) h
  · have h := h.2 g9
    refine Fr.bipush (by decide +kernel : zi 189 12 = some (.bipush (-5), 2)) (by decide) ?_
    exact Fr.retI (by decide +kernel : zi 189 14 = some (.ireturn, 1)) (by decide +kernel) h
theorem e189 {xs : Nat → Int} {L : Nat} {d : Nat} {v1 : Int} {v2 : Int} {s : Pl} {Q : Option AV → Pl → Prop} (hd : 1 ≤ d) (k : Fr xs L T0 106 (d - 1) 189 0 [some (rf 73), some (it v1), some (it v2), none] [] s Q) : Ev xs L T0 106 d 189 [rf 73, it v1, it v2] s Q := Ev.of (by decide) _ rfl hd k
theorem f189_71 {xs : Nat → Int} {L : Nat} {d : Nat} {v1 : Int} {v2 : Int} {vs0 : Int} {s : Pl} {P : Int → Pl → Prop} (h : Ev xs L T0 106 d 185 [rf 73] s (qv fun s1 => P vs0 s1)) : Fr xs L T0 106 d 189 71 [some (rf 73), some (it v1), some (it v2), none] [it vs0] s (qi P) := by
  refine Fr.istn (lv2 := [some (rf 73), some (it v1), some (it v2), some (it vs0)]) (by decide +kernel : zi 189 71 = some (.istore_n 3, 1)) (Nat.le_of_ble_eq_true rfl) rfl ?_
  refine Fr.aldn (c := 73) (by decide +kernel : zi 189 72 = some (.aload_n 0, 1)) rfl ⟨by omega, by omega⟩ ?_
  refine Fr.callV (y2 := 185) (na := 1) (as := [rf 73]) (rest := []) (by decide +kernel : zi 189 73 = some (.invokevirtual 281, 3)) rfl (by decide +kernel) (by decide +kernel) rfl rfl (zok_V rfl (by decide) (by decide +kernel) (by decide +kernel) (zrecv_c (c := 72) (by decide) (by decide +kernel)) rfl (Nat.le_of_ble_eq_true rfl)) h (fun s1 h => ?_)
  refine Fr.ildn (by decide +kernel : zi 189 76 = some (.iload_n 3, 1)) rfl ?_
  exact Fr.retI (by decide +kernel : zi 189 77 = some (.ireturn, 1)) (by decide +kernel) h
