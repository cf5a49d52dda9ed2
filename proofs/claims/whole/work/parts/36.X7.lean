-- 83 X7_far
theorem f83_0 {xs : Nat → Int} {L : Nat} {d : Nat} {v1 : Int} {v2 : Int} {v3 : Int} {s : Pl} {P : Int → Pl → Prop} (h : Ev xs L T0 106 d 126 [it v1] s (qi fun r2 s1 => ((r2 = 0 → P (-1) s1) ∧ (¬ (r2 = 0) → Ev xs L T0 106 d 126 [it v2] s1 (qi fun r4 s3 => ((r4 = 0 → P (-1) s3) ∧ (¬ (r4 = 0) → ((¬ v1 = v2 → ((v3 < 1 → P (-2) s3) ∧ (¬ (v3 < 1) → ((v3 ≤ 9 → Ev xs L T0 106 d 4 [rf 2, it v1, it v2, it v3] (zup s3 0 9 0) (qi fun r6 s5 => P r6 s5)) ∧ (¬ (v3 ≤ 9) → P (-2) s3))))) ∧ (¬ (¬ v1 = v2) → P (-1) s3))))))))) : Fr xs L T0 106 d 83 0 [some (rf 1), some (it v1), some (it v2), some (it v3)] [] s (qi P) := by
  refine Fr.ildn (by decide +kernel : zi 83 0 = some (.iload_n 1, 1)) rfl ?_
  refine Fr.callI (y2 := 126) (na := 1) (as := [it v1]) (rest := []) (by decide +kernel : zi 83 1 = some (.invokestatic 94, 3)) rfl (by decide +kernel) (by decide +kernel) rfl rfl (zok_S rfl (by decide) (by decide +kernel) rfl (Nat.le_of_ble_eq_true rfl)) h (fun r2 s1 h => ?_)
  refine Fr.if0 (q := 19) (by decide +kernel : zi 83 4 = some (.ifCond .eq 15, 3)) (by decide +kernel) (fun g9 => ?_) (fun g9 => ?_)
  · have h := h.1 g9
    refine Fr.iconst (by decide +kernel : zi 83 19 = some (.iconst (-1), 1)) (by decide) ?_
    exact Fr.retI (by decide +kernel : zi 83 20 = some (.ireturn, 1)) (by decide +kernel) h
  · have h := h.2 g9
    refine Fr.ildn (by decide +kernel : zi 83 7 = some (.iload_n 2, 1)) rfl ?_
    refine Fr.callI (y2 := 126) (na := 1) (as := [it v2]) (rest := []) (by decide +kernel : zi 83 8 = some (.invokestatic 94, 3)) rfl (by decide +kernel) (by decide +kernel) rfl rfl (zok_S rfl (by decide) (by decide +kernel) rfl (Nat.le_of_ble_eq_true rfl)) h (fun r4 s3 h => ?_)
    refine Fr.if0 (q := 19) (by decide +kernel : zi 83 11 = some (.ifCond .eq 8, 3)) (by decide +kernel) (fun g9 => ?_) (fun g9 => ?_)
    · have h := h.1 g9
      refine Fr.iconst (by decide +kernel : zi 83 19 = some (.iconst (-1), 1)) (by decide) ?_
      exact Fr.retI (by decide +kernel : zi 83 20 = some (.ireturn, 1)) (by decide +kernel) h
    · have h := h.2 g9
      refine Fr.ildn (by decide +kernel : zi 83 14 = some (.iload_n 1, 1)) rfl ?_
      refine Fr.ildn (by decide +kernel : zi 83 15 = some (.iload_n 2, 1)) rfl ?_
      refine Fr.if2 (q := 21) (by decide +kernel : zi 83 16 = some (.if_icmp .ne 5, 3)) (by decide +kernel) (fun g9 => ?_) (fun g9 => ?_)
      · have h := h.1 g9
        refine Fr.ildn (by decide +kernel : zi 83 21 = some (.iload_n 3, 1)) rfl ?_
        refine Fr.iconst (by decide +kernel : zi 83 22 = some (.iconst 1, 1)) (by decide) ?_
        refine Fr.if2 (q := 32) (by decide +kernel : zi 83 23 = some (.if_icmp .lt 9, 3)) (by decide +kernel) (fun g9 => ?_) (fun g9 => ?_)
        · have h := h.1 g9
          refine Fr.bipush (by decide +kernel : zi 83 32 = some (.bipush (-2), 2)) (by decide) ?_
          exact Fr.retI (by decide +kernel : zi 83 34 = some (.ireturn, 1)) (by decide +kernel) h
        · have h := h.2 g9
          refine Fr.ildn (by decide +kernel : zi 83 26 = some (.iload_n 3, 1)) rfl ?_
          refine Fr.bipush (by decide +kernel : zi 83 27 = some (.bipush 9, 2)) (by decide) ?_
          refine Fr.if2 (q := 35) (by decide +kernel : zi 83 29 = some (.if_icmp .le 6, 3)) (by decide +kernel) (fun g9 => ?_) (fun g9 => ?_)
          · have h := h.1 g9
            refine Fr.aldn (c := 1) (by decide +kernel : zi 83 35 = some (.aload_n 0, 1)) rfl ⟨by omega, by omega⟩ ?_
            refine Fr.iconst (by decide +kernel : zi 83 36 = some (.iconst 0, 1)) (by decide) ?_
            refine Fr.pZ (c := 0) (ci := 7) (k := 9) 9 (by decide +kernel : zi 83 37 = some (.putfield 98, 3)) (by decide +kernel) (by decide +kernel) (by decide) (by decide +kernel) (by decide) rfl ?_
            refine Fr.aldn (c := 1) (by decide +kernel : zi 83 40 = some (.aload_n 0, 1)) rfl ⟨by omega, by omega⟩ ?_
            refine Fr.gR (c := 0) (c2 := 2) (ci := 7) (k := 0) 0 (by decide +kernel : zi 83 41 = some (.getfield 10, 3)) (by decide +kernel) (by decide +kernel) (by decide +kernel) (by decide) rfl (fun q => q (0, 0, 2) (by decide +kernel)) ?_
            refine Fr.ildn (by decide +kernel : zi 83 44 = some (.iload_n 1, 1)) rfl ?_
            refine Fr.ildn (by decide +kernel : zi 83 45 = some (.iload_n 2, 1)) rfl ?_
            refine Fr.ildn (by decide +kernel : zi 83 46 = some (.iload_n 3, 1)) rfl ?_
            refine Fr.callI (y2 := 4) (na := 4) (as := [rf 2, it v1, it v2, it v3]) (rest := []) (by decide +kernel : zi 83 47 = some (.invokevirtual 102, 3)) rfl (by decide +kernel) (by decide +kernel) rfl rfl (zok_V rfl (by decide) (by decide +kernel) (by decide +kernel) (zrecv_c (c := 1) (by decide) (by decide +kernel)) rfl (Nat.le_of_ble_eq_true rfl)) h (fun r6 s5 h => ?_)
            exact Fr.retI (by decide +kernel : zi 83 50 = some (.ireturn, 1)) (by decide +kernel) h
          · have h := h.2 g9
            refine Fr.bipush (by decide +kernel : zi 83 32 = some (.bipush (-2), 2)) (by decide) ?_
            exact Fr.retI (by decide +kernel : zi 83 34 = some (.ireturn, 1)) (by decide +kernel) h
      · have h := h.2 g9
        refine Fr.iconst (by decide +kernel : zi 83 19 = some (.iconst (-1), 1)) (by decide) ?_
        exact Fr.retI (by decide +kernel : zi 83 20 = some (.ireturn, 1)) (by decide +kernel) h
theorem e83 {xs : Nat → Int} {L : Nat} {d : Nat} {v1 : Int} {v2 : Int} {v3 : Int} {s : Pl} {Q : Option AV → Pl → Prop} (hd : 1 ≤ d) (k : Fr xs L T0 106 (d - 1) 83 0 [some (rf 1), some (it v1), some (it v2), some (it v3)] [] s Q) : Ev xs L T0 106 d 83 [rf 1, it v1, it v2, it v3] s Q := Ev.of (by decide) _ rfl hd k
-- 84 X7_moor
theorem f84_0 {xs : Nat → Int} {L : Nat} {d : Nat} {v1 : Int} {s : Pl} {P : Int → Pl → Prop} (h : Ev xs L T0 106 d 126 [it v1] s (qi fun r2 s1 => ((¬ r2 = 0 → P ((zup s1 0 9 0) 1 0) (zup (zup s1 0 9 0) 1 0 v1)) ∧ (¬ (¬ r2 = 0) → P (-2) s1)))) : Fr xs L T0 106 d 84 0 [some (rf 1), some (it v1), none] [] s (qi P) := by
  refine Fr.ildn (by decide +kernel : zi 84 0 = some (.iload_n 1, 1)) rfl ?_
  refine Fr.callI (y2 := 126) (na := 1) (as := [it v1]) (rest := []) (by decide +kernel : zi 84 1 = some (.invokestatic 94, 3)) rfl (by decide +kernel) (by decide +kernel) rfl rfl (zok_S rfl (by decide) (by decide +kernel) rfl (Nat.le_of_ble_eq_true rfl)) h (fun r2 s1 h => ?_)
  refine Fr.if0 (q := 10) (by decide +kernel : zi 84 4 = some (.ifCond .ne 6, 3)) (by decide +kernel) (fun g9 => ?_) (fun g9 => ?_)
  · have h := h.1 g9
    refine Fr.aldn (c := 1) (by decide +kernel : zi 84 10 = some (.aload_n 0, 1)) rfl ⟨by omega, by omega⟩ ?_
    refine Fr.iconst (by decide +kernel : zi 84 11 = some (.iconst 0, 1)) (by decide) ?_
    refine Fr.pZ (c := 0) (ci := 7) (k := 9) 9 (by decide +kernel : zi 84 12 = some (.putfield 98, 3)) (by decide +kernel) (by decide +kernel) (by decide) (by decide +kernel) (by decide) rfl ?_
    refine Fr.aldn (c := 1) (by decide +kernel : zi 84 15 = some (.aload_n 0, 1)) rfl ⟨by omega, by omega⟩ ?_
    refine Fr.gR (c := 0) (c2 := 2) (ci := 7) (k := 0) 0 (by decide +kernel : zi 84 16 = some (.getfield 10, 3)) (by decide +kernel) (by decide +kernel) (by decide +kernel) (by decide) rfl (fun q => q (0, 0, 2) (by decide +kernel)) ?_
    refine Fr.gI (c := 1) (ci := 0) (k := 0) (t := 0) 0 (by decide +kernel : zi 84 19 = some (.getfield 106, 3)) (by decide +kernel) (by decide +kernel) (by decide +kernel) (by decide) rfl ?_
    refine Fr.istn (lv2 := [some (rf 1), some (it v1), some (it ((zup s1 0 9 0) 1 0))]) (by decide +kernel : zi 84 22 = some (.istore_n 2, 1)) (Nat.le_of_ble_eq_true rfl) rfl ?_
    refine Fr.aldn (c := 1) (by decide +kernel : zi 84 23 = some (.aload_n 0, 1)) rfl ⟨by omega, by omega⟩ ?_
    refine Fr.gR (c := 0) (c2 := 2) (ci := 7) (k := 0) 0 (by decide +kernel : zi 84 24 = some (.getfield 10, 3)) (by decide +kernel) (by decide +kernel) (by decide +kernel) (by decide) rfl (fun q => q (0, 0, 2) (by decide +kernel)) ?_
    refine Fr.ildn (by decide +kernel : zi 84 27 = some (.iload_n 1, 1)) rfl ?_
    refine Fr.pI (c := 1) (ci := 0) (k := 0) 0 (by decide +kernel : zi 84 28 = some (.putfield 106, 3)) (by decide +kernel) (by decide +kernel) (by decide +kernel) (by decide) rfl ?_
    refine Fr.ildn (by decide +kernel : zi 84 31 = some (.iload_n 2, 1)) rfl ?_
    exact Fr.retI (by decide +kernel : zi 84 32 = some (.ireturn, 1)) (by decide +kernel) h
  · have h := h.2 g9
    refine Fr.bipush (by decide +kernel : zi 84 7 = some (.bipush (-2), 2)) (by decide) ?_
    exact Fr.retI (by decide +kernel : zi 84 9 = some (.ireturn, 1)) (by decide +kernel) h
theorem e84 {xs : Nat → Int} {L : Nat} {d : Nat} {v1 : Int} {s : Pl} {Q : Option AV → Pl → Prop} (hd : 1 ≤ d) (k : Fr xs L T0 106 (d - 1) 84 0 [some (rf 1), some (it v1), none] [] s Q) : Ev xs L T0 106 d 84 [rf 1, it v1] s Q := Ev.of (by decide) _ rfl hd k
-- 85 X7_count
theorem f85_0 {xs : Nat → Int} {L : Nat} {d : Nat} {v1 : Int} {s : Pl} {P : Int → Pl → Prop} (h : ((v1 < 0 ∨ 6 < v1 → P (-2) s) ∧ (v1 = 0 → P (s 1 0) s) ∧ (v1 = 1 → P (s 1 1) s) ∧ (v1 = 2 → Ev xs L T0 106 d 6 [rf 2, it 4] s (qi fun r2 s1 => Ev xs L T0 106 d 228 [it r2] s1 (qi fun r4 s3 => P r4 s3))) ∧ (v1 = 3 → P (s 68 4) s) ∧ (v1 = 4 → P (s 0 4) s) ∧ (v1 = 5 → P (s 1 2) s) ∧ (v1 = 6 → P (s 53 1) s))) : Fr xs L T0 106 d 85 0 [some (rf 1), some (it v1)] [] s (qi P) := by
  refine Fr.ildn (by decide +kernel : zi 85 0 = some (.iload_n 1, 1)) rfl ?_
  rcases (show (v1 < 0 ∨ 6 < v1) ∨ v1 = 0 ∨ v1 = 1 ∨ v1 = 2 ∨ v1 = 3 ∨ v1 = 4 ∨ v1 = 5 ∨ v1 = 6 by omega) with g9 | g9 | g9 | g9 | g9 | g9 | g9 | g9
  · have h := h.1 g9
    refine Fr.tsd (q := 101) (by decide +kernel : zi 85 1 = some (.tableswitch 100 0 6 #[43, 51, 59, 71, 79, 84, 92], 43)) g9 (by decide +kernel) ?_
    refine Fr.bipush (by decide +kernel : zi 85 101 = some (.bipush (-2), 2)) (by decide) ?_
    exact Fr.retI (by decide +kernel : zi 85 103 = some (.ireturn, 1)) (by decide +kernel) h
  · have h := h.2.1 g9
    refine Fr.tsw (off := 43) (q := 44) (by decide +kernel : zi 85 1 = some (.tableswitch 100 0 6 #[43, 51, 59, 71, 79, 84, 92], 43)) (by omega) (by rw [g9]; decide +kernel) (by decide +kernel) ?_
    refine Fr.aldn (c := 1) (by decide +kernel : zi 85 44 = some (.aload_n 0, 1)) rfl ⟨by omega, by omega⟩ ?_
    refine Fr.gR (c := 0) (c2 := 2) (ci := 7) (k := 0) 0 (by decide +kernel : zi 85 45 = some (.getfield 10, 3)) (by decide +kernel) (by decide +kernel) (by decide +kernel) (by decide) rfl (fun q => q (0, 0, 2) (by decide +kernel)) ?_
    refine Fr.gI (c := 1) (ci := 0) (k := 0) (t := 0) 0 (by decide +kernel : zi 85 48 = some (.getfield 106, 3)) (by decide +kernel) (by decide +kernel) (by decide +kernel) (by decide) rfl ?_
    exact Fr.retI (by decide +kernel : zi 85 51 = some (.ireturn, 1)) (by decide +kernel) h
  · have h := h.2.2.1 g9
    refine Fr.tsw (off := 51) (q := 52) (by decide +kernel : zi 85 1 = some (.tableswitch 100 0 6 #[43, 51, 59, 71, 79, 84, 92], 43)) (by omega) (by rw [g9]; decide +kernel) (by decide +kernel) ?_
    refine Fr.aldn (c := 1) (by decide +kernel : zi 85 52 = some (.aload_n 0, 1)) rfl ⟨by omega, by omega⟩ ?_
    refine Fr.gR (c := 0) (c2 := 2) (ci := 7) (k := 0) 0 (by decide +kernel : zi 85 53 = some (.getfield 10, 3)) (by decide +kernel) (by decide +kernel) (by decide +kernel) (by decide) rfl (fun q => q (0, 0, 2) (by decide +kernel)) ?_
    refine Fr.gI (c := 1) (ci := 0) (k := 1) (t := 0) 1 (by decide +kernel : zi 85 56 = some (.getfield 109, 3)) (by decide +kernel) (by decide +kernel) (by decide +kernel) (by decide) rfl ?_
    exact Fr.retI (by decide +kernel : zi 85 59 = some (.ireturn, 1)) (by decide +kernel) h
  · have h := h.2.2.2.1 g9
    refine Fr.tsw (off := 59) (q := 60) (by decide +kernel : zi 85 1 = some (.tableswitch 100 0 6 #[43, 51, 59, 71, 79, 84, 92], 43)) (by omega) (by rw [g9]; decide +kernel) (by decide +kernel) ?_
    refine Fr.aldn (c := 1) (by decide +kernel : zi 85 60 = some (.aload_n 0, 1)) rfl ⟨by omega, by omega⟩ ?_
    refine Fr.gR (c := 0) (c2 := 2) (ci := 7) (k := 0) 0 (by decide +kernel : zi 85 61 = some (.getfield 10, 3)) (by decide +kernel) (by decide +kernel) (by decide +kernel) (by decide) rfl (fun q => q (0, 0, 2) (by decide +kernel)) ?_
    refine Fr.iconst (by decide +kernel : zi 85 64 = some (.iconst 4, 1)) (by decide) ?_
    refine Fr.callI (y2 := 6) (na := 2) (as := [rf 2, it 4]) (rest := []) (by decide +kernel : zi 85 65 = some (.invokevirtual 112, 3)) rfl (by decide +kernel) (by decide +kernel) rfl rfl (zok_V rfl (by decide) (by decide +kernel) (by decide +kernel) (zrecv_c (c := 1) (by decide) (by decide +kernel)) rfl (Nat.le_of_ble_eq_true rfl)) h (fun r2 s1 h => ?_)
    refine Fr.callI (y2 := 228) (na := 1) (as := [it r2]) (rest := []) (by decide +kernel : zi 85 68 = some (.invokestatic 116, 3)) rfl (by decide +kernel) (by decide +kernel) rfl rfl (zok_S rfl (by decide) (by decide +kernel) rfl (Nat.le_of_ble_eq_true rfl)) h (fun r4 s3 h => ?_)
    exact Fr.retI (by decide +kernel : zi 85 71 = some (.ireturn, 1)) (by decide +kernel) h
  · have h := h.2.2.2.2.1 g9
    refine Fr.tsw (off := 71) (q := 72) (by decide +kernel : zi 85 1 = some (.tableswitch 100 0 6 #[43, 51, 59, 71, 79, 84, 92], 43)) (by omega) (by rw [g9]; decide +kernel) (by decide +kernel) ?_
    refine Fr.aldn (c := 1) (by decide +kernel : zi 85 72 = some (.aload_n 0, 1)) rfl ⟨by omega, by omega⟩ ?_
    refine Fr.gR (c := 0) (c2 := 69) (ci := 7) (k := 8) 8 (by decide +kernel : zi 85 73 = some (.getfield 90, 3)) (by decide +kernel) (by decide +kernel) (by decide +kernel) (by decide) rfl (fun q => q (0, 8, 69) (by decide +kernel)) ?_
    refine Fr.gI (c := 68) (ci := 6) (k := 4) (t := 0) 4 (by decide +kernel : zi 85 76 = some (.getfield 121, 3)) (by decide +kernel) (by decide +kernel) (by decide +kernel) (by decide) rfl ?_
    exact Fr.retI (by decide +kernel : zi 85 79 = some (.ireturn, 1)) (by decide +kernel) h
  · have h := h.2.2.2.2.2.1 g9
    refine Fr.tsw (off := 79) (q := 80) (by decide +kernel : zi 85 1 = some (.tableswitch 100 0 6 #[43, 51, 59, 71, 79, 84, 92], 43)) (by omega) (by rw [g9]; decide +kernel) (by decide +kernel) ?_
    refine Fr.aldn (c := 1) (by decide +kernel : zi 85 80 = some (.aload_n 0, 1)) rfl ⟨by omega, by omega⟩ ?_
    refine Fr.gI (c := 0) (ci := 7) (k := 4) (t := 0) 4 (by decide +kernel : zi 85 81 = some (.getfield 66, 3)) (by decide +kernel) (by decide +kernel) (by decide +kernel) (by decide) rfl ?_
    exact Fr.retI (by decide +kernel : zi 85 84 = some (.ireturn, 1)) (by decide +kernel) h
  · have h := h.2.2.2.2.2.2.1 g9
    refine Fr.tsw (off := 84) (q := 85) (by decide +kernel : zi 85 1 = some (.tableswitch 100 0 6 #[43, 51, 59, 71, 79, 84, 92], 43)) (by omega) (by rw [g9]; decide +kernel) (by decide +kernel) ?_
    refine Fr.aldn (c := 1) (by decide +kernel : zi 85 85 = some (.aload_n 0, 1)) rfl ⟨by omega, by omega⟩ ?_
    refine Fr.gR (c := 0) (c2 := 2) (ci := 7) (k := 0) 0 (by decide +kernel : zi 85 86 = some (.getfield 10, 3)) (by decide +kernel) (by decide +kernel) (by decide +kernel) (by decide) rfl (fun q => q (0, 0, 2) (by decide +kernel)) ?_
    refine Fr.gI (c := 1) (ci := 0) (k := 2) (t := 0) 2 (by decide +kernel : zi 85 89 = some (.getfield 124, 3)) (by decide +kernel) (by decide +kernel) (by decide +kernel) (by decide) rfl ?_
    exact Fr.retI (by decide +kernel : zi 85 92 = some (.ireturn, 1)) (by decide +kernel) h
  · have h := h.2.2.2.2.2.2.2 g9
    refine Fr.tsw (off := 92) (q := 93) (by decide +kernel : zi 85 1 = some (.tableswitch 100 0 6 #[43, 51, 59, 71, 79, 84, 92], 43)) (by omega) (by rw [g9]; decide +kernel) (by decide +kernel) ?_
    refine Fr.aldn (c := 1) (by decide +kernel : zi 85 93 = some (.aload_n 0, 1)) rfl ⟨by omega, by omega⟩ ?_
    refine Fr.gR (c := 0) (c2 := 54) (ci := 7) (k := 5) 5 (by decide +kernel : zi 85 94 = some (.getfield 38, 3)) (by decide +kernel) (by decide +kernel) (by decide +kernel) (by decide) rfl (fun q => q (0, 5, 54) (by decide +kernel)) ?_
    refine Fr.gI (c := 53) (ci := 2) (k := 1) (t := 0) 1 (by decide +kernel : zi 85 97 = some (.getfield 62, 3)) (by decide +kernel) (by decide +kernel) (by decide +kernel) (by decide) rfl ?_
    exact Fr.retI (by decide +kernel : zi 85 100 = some (.ireturn, 1)) (by decide +kernel) h
theorem e85 {xs : Nat → Int} {L : Nat} {d : Nat} {v1 : Int} {s : Pl} {Q : Option AV → Pl → Prop} (hd : 1 ≤ d) (k : Fr xs L T0 106 (d - 1) 85 0 [some (rf 1), some (it v1)] [] s Q) : Ev xs L T0 106 d 85 [rf 1, it v1] s Q := Ev.of (by decide) _ rfl hd k
-- 86 X7_feed
theorem f86_0 {xs : Nat → Int} {L : Nat} {d : Nat} {v1 : Int} {v2 : Int} {v3 : Int} {v4 : Int} {v5 : Int} {v6 : Int} {s : Pl} {P : Int → Pl → Prop} (h : ((v1 < 1 → P (-2) s) ∧ (¬ (v1 < 1) → ((5 < v1 → P (-2) s) ∧ (¬ (5 < v1) → Ev xs L T0 106 d 127 [it v2] s (qi fun r2 s1 => ((r2 = 0 → P (-2) s1) ∧ (¬ (r2 = 0) → Ev xs L T0 106 d 127 [it v3] s1 (qi fun r4 s3 => ((r4 = 0 → P (-2) s3) ∧ (¬ (r4 = 0) → Ev xs L T0 106 d 127 [it v4] s3 (qi fun r6 s5 => ((r6 = 0 → P (-2) s5) ∧ (¬ (r6 = 0) → Ev xs L T0 106 d 127 [it v5] s5 (qi fun r8 s7 => ((r8 = 0 → P (-2) s7) ∧ (¬ (r8 = 0) → Ev xs L T0 106 d 127 [it v6] s7 (qi fun r10 s9 => ((¬ r10 = 0 → ((zw ((s9 53 1) + v1) ≤ 160 → Fr xs L T0 106 d 86 72 [some (rf 1), some (it v1), some (it v2), some (it v3), some (it v4), some (it v5), some (it v6), some (it 0)] [] s9 (qi P)) ∧ (¬ (zw ((s9 53 1) + v1) ≤ 160) → P (-4) s9))) ∧ (¬ (¬ r10 = 0) → P (-2) s9)))))))))))))))))))) : Fr xs L T0 106 d 86 0 [some (rf 1), some (it v1), some (it v2), some (it v3), some (it v4), some (it v5), some (it v6), none] [] s (qi P) := by
  refine Fr.ildn (by decide +kernel : zi 86 0 = some (.iload_n 1, 1)) rfl ?_
  refine Fr.iconst (by decide +kernel : zi 86 1 = some (.iconst 1, 1)) (by decide) ?_
  refine Fr.if2 (q := 48) (by decide +kernel : zi 86 2 = some (.if_icmp .lt 46, 3)) (by decide +kernel) (fun g9 => ?_) (fun g9 => ?_)
  · have h := h.1 g9
    refine Fr.bipush (by decide +kernel : zi 86 48 = some (.bipush (-2), 2)) (by decide) ?_
    exact Fr.retI (by decide +kernel : zi 86 50 = some (.ireturn, 1)) (by decide +kernel) h
  · have h := h.2 g9
    refine Fr.ildn (by decide +kernel : zi 86 5 = some (.iload_n 1, 1)) rfl ?_
    refine Fr.iconst (by decide +kernel : zi 86 6 = some (.iconst 5, 1)) (by decide) ?_
    refine Fr.if2 (q := 48) (by decide +kernel : zi 86 7 = some (.if_icmp .gt 41, 3)) (by decide +kernel) (fun g9 => ?_) (fun g9 => ?_)
    · have h := h.1 g9
      refine Fr.bipush (by decide +kernel : zi 86 48 = some (.bipush (-2), 2)) (by decide) ?_
      exact Fr.retI (by decide +kernel : zi 86 50 = some (.ireturn, 1)) (by decide +kernel) h
    · have h := h.2 g9
      refine Fr.ildn (by decide +kernel : zi 86 10 = some (.iload_n 2, 1)) rfl ?_
      refine Fr.callI (y2 := 127) (na := 1) (as := [it v2]) (rest := []) (by decide +kernel : zi 86 11 = some (.invokestatic 127, 3)) rfl (by decide +kernel) (by decide +kernel) rfl rfl (zok_S rfl (by decide) (by decide +kernel) rfl (Nat.le_of_ble_eq_true rfl)) h (fun r2 s1 h => ?_)
      refine Fr.if0 (q := 48) (by decide +kernel : zi 86 14 = some (.ifCond .eq 34, 3)) (by decide +kernel) (fun g9 => ?_) (fun g9 => ?_)
      · have h := h.1 g9
        refine Fr.bipush (by decide +kernel : zi 86 48 = some (.bipush (-2), 2)) (by decide) ?_
        exact Fr.retI (by decide +kernel : zi 86 50 = some (.ireturn, 1)) (by decide +kernel) h
      · have h := h.2 g9
        refine Fr.ildn (by decide +kernel : zi 86 17 = some (.iload_n 3, 1)) rfl ?_
        refine Fr.callI (y2 := 127) (na := 1) (as := [it v3]) (rest := []) (by decide +kernel : zi 86 18 = some (.invokestatic 127, 3)) rfl (by decide +kernel) (by decide +kernel) rfl rfl (zok_S rfl (by decide) (by decide +kernel) rfl (Nat.le_of_ble_eq_true rfl)) h (fun r4 s3 h => ?_)
        refine Fr.if0 (q := 48) (by decide +kernel : zi 86 21 = some (.ifCond .eq 27, 3)) (by decide +kernel) (fun g9 => ?_) (fun g9 => ?_)
        · have h := h.1 g9
          refine Fr.bipush (by decide +kernel : zi 86 48 = some (.bipush (-2), 2)) (by decide) ?_
          exact Fr.retI (by decide +kernel : zi 86 50 = some (.ireturn, 1)) (by decide +kernel) h
        · have h := h.2 g9
          refine Fr.ild (by decide +kernel : zi 86 24 = some (.iload 4, 2)) rfl ?_
          refine Fr.callI (y2 := 127) (na := 1) (as := [it v4]) (rest := []) (by decide +kernel : zi 86 26 = some (.invokestatic 127, 3)) rfl (by decide +kernel) (by decide +kernel) rfl rfl (zok_S rfl (by decide) (by decide +kernel) rfl (Nat.le_of_ble_eq_true rfl)) h (fun r6 s5 h => ?_)
          refine Fr.if0 (q := 48) (by decide +kernel : zi 86 29 = some (.ifCond .eq 19, 3)) (by decide +kernel) (fun g9 => ?_) (fun g9 => ?_)
          · have h := h.1 g9
            refine Fr.bipush (by decide +kernel : zi 86 48 = some (.bipush (-2), 2)) (by decide) ?_
            exact Fr.retI (by decide +kernel : zi 86 50 = some (.ireturn, 1)) (by decide +kernel) h
          · have h := h.2 g9
            refine Fr.ild (by decide +kernel : zi 86 32 = some (.iload 5, 2)) rfl ?_
            refine Fr.callI (y2 := 127) (na := 1) (as := [it v5]) (rest := []) (by decide +kernel : zi 86 34 = some (.invokestatic 127, 3)) rfl (by decide +kernel) (by decide +kernel) rfl rfl (zok_S rfl (by decide) (by decide +kernel) rfl (Nat.le_of_ble_eq_true rfl)) h (fun r8 s7 h => ?_)
            refine Fr.if0 (q := 48) (by decide +kernel : zi 86 37 = some (.ifCond .eq 11, 3)) (by decide +kernel) (fun g9 => ?_) (fun g9 => ?_)
            · have h := h.1 g9
              refine Fr.bipush (by decide +kernel : zi 86 48 = some (.bipush (-2), 2)) (by decide) ?_
              exact Fr.retI (by decide +kernel : zi 86 50 = some (.ireturn, 1)) (by decide +kernel) h
            · have h := h.2 g9
              refine Fr.ild (by decide +kernel : zi 86 40 = some (.iload 6, 2)) rfl ?_
              refine Fr.callI (y2 := 127) (na := 1) (as := [it v6]) (rest := []) (by decide +kernel : zi 86 42 = some (.invokestatic 127, 3)) rfl (by decide +kernel) (by decide +kernel) rfl rfl (zok_S rfl (by decide) (by decide +kernel) rfl (Nat.le_of_ble_eq_true rfl)) h (fun r10 s9 h => ?_)
              refine Fr.if0 (q := 51) (by decide +kernel : zi 86 45 = some (.ifCond .ne 6, 3)) (by decide +kernel) (fun g9 => ?_) (fun g9 => ?_)
              · have h := h.1 g9
                refine Fr.aldn (c := 1) (by decide +kernel : zi 86 51 = some (.aload_n 0, 1)) rfl ⟨by omega, by omega⟩ ?_
                refine Fr.gR (c := 0) (c2 := 54) (ci := 7) (k := 5) 5 (by decide +kernel : zi 86 52 = some (.getfield 38, 3)) (by decide +kernel) (by decide +kernel) (by decide +kernel) (by decide) rfl (fun q => q (0, 5, 54) (by decide +kernel)) ?_
                refine Fr.gI (c := 53) (ci := 2) (k := 1) (t := 0) 1 (by decide +kernel : zi 86 55 = some (.getfield 62, 3)) (by decide +kernel) (by decide +kernel) (by decide +kernel) (by decide) rfl ?_
                refine Fr.ildn (by decide +kernel : zi 86 58 = some (.iload_n 1, 1)) rfl ?_
                refine Fr.iadd (by decide +kernel : zi 86 59 = some (.iadd, 1)) ?_
                refine Fr.sipush (by decide +kernel : zi 86 60 = some (.sipush 160, 3)) (by decide) ?_
                refine Fr.if2 (q := 69) (by decide +kernel : zi 86 63 = some (.if_icmp .le 6, 3)) (by decide +kernel) (fun g9 => ?_) (fun g9 => ?_)
                · have h := h.1 g9
                  refine Fr.iconst (by decide +kernel : zi 86 69 = some (.iconst 0, 1)) (by decide) ?_
                  refine Fr.ist (lv2 := [some (rf 1), some (it v1), some (it v2), some (it v3), some (it v4), some (it v5), some (it v6), some (it 0)]) (by decide +kernel : zi 86 70 = some (.istore 7, 2)) (Nat.le_of_ble_eq_true rfl) rfl ?_
                  exact h
                · have h := h.2 g9
                  refine Fr.bipush (by decide +kernel : zi 86 66 = some (.bipush (-4), 2)) (by decide) ?_
                  exact Fr.retI (by decide +kernel : zi 86 68 = some (.ireturn, 1)) (by decide +kernel) h
              · have h := h.2 g9
                refine Fr.bipush (by decide +kernel : zi 86 48 = some (.bipush (-2), 2)) (by decide) ?_
                exact Fr.retI (by decide +kernel : zi 86 50 = some (.ireturn, 1)) (by decide +kernel) h
theorem e86 {xs : Nat → Int} {L : Nat} {d : Nat} {v1 : Int} {v2 : Int} {v3 : Int} {v4 : Int} {v5 : Int} {v6 : Int} {s : Pl} {Q : Option AV → Pl → Prop} (hd : 1 ≤ d) (k : Fr xs L T0 106 (d - 1) 86 0 [some (rf 1), some (it v1), some (it v2), some (it v3), some (it v4), some (it v5), some (it v6), none] [] s Q) : Ev xs L T0 106 d 86 [rf 1, it v1, it v2, it v3, it v4, it v5, it v6] s Q := Ev.of (by decide) _ rfl hd k
theorem f86_72 {xs : Nat → Int} {L : Nat} {d : Nat} {v1 : Int} {v2 : Int} {v3 : Int} {v4 : Int} {v5 : Int} {v6 : Int} {v7 : Int} {s : Pl} {P : Int → Pl → Prop} (h : ((v1 ≤ v7 → P (s 53 1) s) ∧ (¬ (v1 ≤ v7) → ((¬ v7 = 0 → ((¬ v7 = 1 → ((¬ v7 = 2 → ((¬ v7 = 3 → Fr xs L T0 106 d 86 125 [some (rf 1), some (it v1), some (it v2), some (it v3), some (it v4), some (it v5), some (it v6), some (it v7)] [it v6, rf 54] s (qi P)) ∧ (¬ (¬ v7 = 3) → Fr xs L T0 106 d 86 125 [some (rf 1), some (it v1), some (it v2), some (it v3), some (it v4), some (it v5), some (it v6), some (it v7)] [it v5, rf 54] s (qi P)))) ∧ (¬ (¬ v7 = 2) → Fr xs L T0 106 d 86 125 [some (rf 1), some (it v1), some (it v2), some (it v3), some (it v4), some (it v5), some (it v6), some (it v7)] [it v4, rf 54] s (qi P)))) ∧ (¬ (¬ v7 = 1) → Fr xs L T0 106 d 86 125 [some (rf 1), some (it v1), some (it v2), some (it v3), some (it v4), some (it v5), some (it v6), some (it v7)] [it v3, rf 54] s (qi P)))) ∧ (¬ (¬ v7 = 0) → Fr xs L T0 106 d 86 125 [some (rf 1), some (it v1), some (it v2), some (it v3), some (it v4), some (it v5), some (it v6), some (it v7)] [it v2, rf 54] s (qi P)))))) : Fr xs L T0 106 d 86 72 [some (rf 1), some (it v1), some (it v2), some (it v3), some (it v4), some (it v5), some (it v6), some (it v7)] [] s (qi P) := by
  refine Fr.ild (by decide +kernel : zi 86 72 = some (.iload 7, 2)) rfl ?_
  refine Fr.ildn (by decide +kernel : zi 86 74 = some (.iload_n 1, 1)) rfl ?_
  refine Fr.if2 (q := 134) (by decide +kernel : zi 86 75 = some (.if_icmp .ge 59, 3)) (by decide +kernel) (fun g9 => ?_) (fun g9 => ?_)
  · have h := h.1 g9
    refine Fr.aldn (c := 1) (by decide +kernel : zi 86 134 = some (.aload_n 0, 1)) rfl ⟨by omega, by omega⟩ ?_
    refine Fr.gR (c := 0) (c2 := 54) (ci := 7) (k := 5) 5 (by decide +kernel : zi 86 135 = some (.getfield 38, 3)) (by decide +kernel) (by decide +kernel) (by decide +kernel) (by decide) rfl (fun q => q (0, 5, 54) (by decide +kernel)) ?_
    refine Fr.gI (c := 53) (ci := 2) (k := 1) (t := 0) 1 (by decide +kernel : zi 86 138 = some (.getfield 62, 3)) (by decide +kernel) (by decide +kernel) (by decide +kernel) (by decide) rfl ?_
    exact Fr.retI (by decide +kernel : zi 86 141 = some (.ireturn, 1)) (by decide +kernel) h
  · have h := h.2 g9
    refine Fr.aldn (c := 1) (by decide +kernel : zi 86 78 = some (.aload_n 0, 1)) rfl ⟨by omega, by omega⟩ ?_
    refine Fr.gR (c := 0) (c2 := 54) (ci := 7) (k := 5) 5 (by decide +kernel : zi 86 79 = some (.getfield 38, 3)) (by decide +kernel) (by decide +kernel) (by decide +kernel) (by decide) rfl (fun q => q (0, 5, 54) (by decide +kernel)) ?_
    refine Fr.ild (by decide +kernel : zi 86 82 = some (.iload 7, 2)) rfl ?_
    refine Fr.if0 (q := 91) (by decide +kernel : zi 86 84 = some (.ifCond .ne 7, 3)) (by decide +kernel) (fun g9 => ?_) (fun g9 => ?_)
    · have h := h.1 g9
      refine Fr.ild (by decide +kernel : zi 86 91 = some (.iload 7, 2)) rfl ?_
      refine Fr.iconst (by decide +kernel : zi 86 93 = some (.iconst 1, 1)) (by decide) ?_
      refine Fr.if2 (q := 101) (by decide +kernel : zi 86 94 = some (.if_icmp .ne 7, 3)) (by decide +kernel) (fun g9 => ?_) (fun g9 => ?_)
      · have h := h.1 g9
        refine Fr.ild (by decide +kernel : zi 86 101 = some (.iload 7, 2)) rfl ?_
        refine Fr.iconst (by decide +kernel : zi 86 103 = some (.iconst 2, 1)) (by decide) ?_
        refine Fr.if2 (q := 112) (by decide +kernel : zi 86 104 = some (.if_icmp .ne 8, 3)) (by decide +kernel) (fun g9 => ?_) (fun g9 => ?_)
        · have h := h.1 g9
          refine Fr.ild (by decide +kernel : zi 86 112 = some (.iload 7, 2)) rfl ?_
          refine Fr.iconst (by decide +kernel : zi 86 114 = some (.iconst 3, 1)) (by decide) ?_
          refine Fr.if2 (q := 123) (by decide +kernel : zi 86 115 = some (.if_icmp .ne 8, 3)) (by decide +kernel) (fun g9 => ?_) (fun g9 => ?_)
          · have h := h.1 g9
            refine Fr.ild (by decide +kernel : zi 86 123 = some (.iload 6, 2)) rfl ?_
            exact h
          · have h := h.2 g9
            refine Fr.ild (by decide +kernel : zi 86 118 = some (.iload 5, 2)) rfl ?_
            refine Fr.goto (q := 125) (by decide +kernel : zi 86 120 = some (.goto 5, 3)) (by decide +kernel) ?_
            exact h
        · have h := h.2 g9
          refine Fr.ild (by decide +kernel : zi 86 107 = some (.iload 4, 2)) rfl ?_
          refine Fr.goto (q := 125) (by decide +kernel : zi 86 109 = some (.goto 16, 3)) (by decide +kernel) ?_
          exact h
      · have h := h.2 g9
        refine Fr.ildn (by decide +kernel : zi 86 97 = some (.iload_n 3, 1)) rfl ?_
        refine Fr.goto (q := 125) (by decide +kernel : zi 86 98 = some (.goto 27, 3)) (by decide +kernel) ?_
        exact h
    · have h := h.2 g9
      refine Fr.ildn (by decide +kernel : zi 86 87 = some (.iload_n 2, 1)) rfl ?_
      refine Fr.goto (q := 125) (by decide +kernel : zi 86 88 = some (.goto 37, 3)) (by decide +kernel) ?_
      exact h
theorem f86_125 {xs : Nat → Int} {L : Nat} {d : Nat} {v1 : Int} {v2 : Int} {v3 : Int} {v4 : Int} {v5 : Int} {v6 : Int} {v7 : Int} {vs0 : Int} {s : Pl} {P : Int → Pl → Prop} (h : Ev xs L T0 106 d 17 [rf 54, it vs0] s (qv fun s1 => Fr xs L T0 106 d 86 72 [some (rf 1), some (it v1), some (it v2), some (it v3), some (it v4), some (it v5), some (it v6), some (it (zw (v7 + 1)))] [] s1 (qi P))) : Fr xs L T0 106 d 86 125 [some (rf 1), some (it v1), some (it v2), some (it v3), some (it v4), some (it v5), some (it v6), some (it v7)] [it vs0, rf 54] s (qi P) := by
  refine Fr.callV (y2 := 17) (na := 2) (as := [rf 54, it vs0]) (rest := []) (by decide +kernel : zi 86 125 = some (.invokevirtual 54, 3)) rfl (by decide +kernel) (by decide +kernel) rfl rfl (zok_V rfl (by decide) (by decide +kernel) (by decide +kernel) (zrecv_c (c := 53) (by decide) (by decide +kernel)) rfl (Nat.le_of_ble_eq_true rfl)) h (fun s1 h => ?_)
  refine Fr.iinc (lv2 := [some (rf 1), some (it v1), some (it v2), some (it v3), some (it v4), some (it v5), some (it v6), some (it (zw (v7 + 1)))]) (by decide +kernel : zi 86 128 = some (.iinc 7 1, 3)) (Nat.le_of_ble_eq_true rfl) rfl rfl ?_
  refine Fr.goto (q := 72) (by decide +kernel : zi 86 131 = some (.goto (-59), 3)) (by decide +kernel) ?_
  exact h
-- 87 X7_text
theorem f87_0 {xs : Nat → Int} {L : Nat} {d : Nat}  {s : Pl} {P : Int → Pl → Prop} (h : ((s 0 4 < 0 → P (-4) s) ∧ (¬ (s 0 4 < 0) → ((s 0 4 < 6 → (0 ≤ s 0 4 ∧ s 0 4 < 6) ∧ ∀ tq1 : Nat, (tq1 : Int) = s 0 4 → tq1 < 6 → Ev xs L T0 106 d 18 [rf 54, rf (21 + 4 * tq1 + 1)] s (qi fun r3 s2 => ((r3 < 0 → P (zw (((zup (zup s2 53 1 0) 0 4 (zw (((zup s2 53 1 0) 0 4) + 1))) 0 4) - 1)) (zup (zup s2 53 1 0) 0 4 (zw (((zup s2 53 1 0) 0 4) + 1)))) ∧ (¬ (r3 < 0) → P (zw ((-100) - r3)) (zup s2 53 1 0))))) ∧ (¬ (s 0 4 < 6) → P (-4) s))))) : Fr xs L T0 106 d 87 0 [some (rf 1), none] [] s (qi P) := by
  refine Fr.aldn (c := 1) (by decide +kernel : zi 87 0 = some (.aload_n 0, 1)) rfl ⟨by omega, by omega⟩ ?_
  refine Fr.gI (c := 0) (ci := 7) (k := 4) (t := 0) 4 (by decide +kernel : zi 87 1 = some (.getfield 66, 3)) (by decide +kernel) (by decide +kernel) (by decide +kernel) (by decide) rfl ?_
  refine Fr.if0 (q := 19) (by decide +kernel : zi 87 4 = some (.ifCond .lt 15, 3)) (by decide +kernel) (fun g9 => ?_) (fun g9 => ?_)
  · have h := h.1 g9
    refine Fr.bipush (by decide +kernel : zi 87 19 = some (.bipush (-4), 2)) (by decide) ?_
    exact Fr.retI (by decide +kernel : zi 87 21 = some (.ireturn, 1)) (by decide +kernel) h
  · have h := h.2 g9
    refine Fr.aldn (c := 1) (by decide +kernel : zi 87 7 = some (.aload_n 0, 1)) rfl ⟨by omega, by omega⟩ ?_
    refine Fr.gI (c := 0) (ci := 7) (k := 4) (t := 0) 4 (by decide +kernel : zi 87 8 = some (.getfield 66, 3)) (by decide +kernel) (by decide +kernel) (by decide +kernel) (by decide) rfl ?_
    refine Fr.aldn (c := 1) (by decide +kernel : zi 87 11 = some (.aload_n 0, 1)) rfl ⟨by omega, by omega⟩ ?_
    refine Fr.gR (c := 0) (c2 := 20) (ci := 7) (k := 3) 3 (by decide +kernel : zi 87 12 = some (.getfield 21, 3)) (by decide +kernel) (by decide +kernel) (by decide +kernel) (by decide) rfl (fun q => q (0, 3, 20) (by decide +kernel)) ?_
    refine Fr.alen (c := 19) (N := 6) (K := 23) (by decide +kernel : zi 87 15 = some (.arraylength, 1)) (by decide +kernel) (by decide) (by decide) ?_
    refine Fr.if2 (q := 22) (by decide +kernel : zi 87 16 = some (.if_icmp .lt 6, 3)) (by decide +kernel) (fun g9 => ?_) (fun g9 => ?_)
    · have h := h.1 g9
      refine Fr.aldn (c := 1) (by decide +kernel : zi 87 22 = some (.aload_n 0, 1)) rfl ⟨by omega, by omega⟩ ?_
      refine Fr.gR (c := 0) (c2 := 54) (ci := 7) (k := 5) 5 (by decide +kernel : zi 87 23 = some (.getfield 38, 3)) (by decide +kernel) (by decide +kernel) (by decide +kernel) (by decide) rfl (fun q => q (0, 5, 54) (by decide +kernel)) ?_
      refine Fr.aldn (c := 1) (by decide +kernel : zi 87 26 = some (.aload_n 0, 1)) rfl ⟨by omega, by omega⟩ ?_
      refine Fr.gR (c := 0) (c2 := 20) (ci := 7) (k := 3) 3 (by decide +kernel : zi 87 27 = some (.getfield 21, 3)) (by decide +kernel) (by decide +kernel) (by decide +kernel) (by decide) rfl (fun q => q (0, 3, 20) (by decide +kernel)) ?_
      refine Fr.aldn (c := 1) (by decide +kernel : zi 87 30 = some (.aload_n 0, 1)) rfl ⟨by omega, by omega⟩ ?_
      refine Fr.gI (c := 0) (ci := 7) (k := 4) (t := 0) 4 (by decide +kernel : zi 87 31 = some (.getfield 66, 3)) (by decide +kernel) (by decide +kernel) (by decide +kernel) (by decide) rfl ?_
      obtain ⟨⟨g0, g1⟩, h⟩ := h
      obtain ⟨tq1, etq1⟩ : ∃ q : Nat, (q : Int) = s 0 4 := ⟨(s 0 4).toNat, by omega⟩
      have htq1 : tq1 < 6 := by omega
      have h := h tq1 etq1 htq1
      refine Fr.aald (c := 19) (c2 := (21 + 4 * tq1 + 1)) (N := 6) (K := 23) (by decide +kernel : zi 87 34 = some (.aaload, 1)) (by decide +kernel) (by decide) (by decide) g0 g1 (fun q => by rw [← etq1]; exact q _ (KR0.2.1 _ (zlaw_T3 _ htq1))) ?_
      refine Fr.callI (y2 := 18) (na := 2) (as := [rf 54, rf (21 + 4 * tq1 + 1)]) (rest := []) (by decide +kernel : zi 87 35 = some (.invokevirtual 58, 3)) rfl (by decide +kernel) (by decide +kernel) rfl rfl (zok_V rfl (by decide) (by decide +kernel) (by decide +kernel) (zrecv_c (c := 53) (by decide) (by decide +kernel)) rfl (Nat.le_of_ble_eq_true rfl)) h (fun r3 s2 h => ?_)
      refine Fr.istn (lv2 := [some (rf 1), some (it r3)]) (by decide +kernel : zi 87 38 = some (.istore_n 1, 1)) (Nat.le_of_ble_eq_true rfl) rfl ?_
      refine Fr.aldn (c := 1) (by decide +kernel : zi 87 39 = some (.aload_n 0, 1)) rfl ⟨by omega, by omega⟩ ?_
      refine Fr.gR (c := 0) (c2 := 54) (ci := 7) (k := 5) 5 (by decide +kernel : zi 87 40 = some (.getfield 38, 3)) (by decide +kernel) (by decide +kernel) (by decide +kernel) (by decide) rfl (fun q => q (0, 5, 54) (by decide +kernel)) ?_
      refine Fr.iconst (by decide +kernel : zi 87 43 = some (.iconst 0, 1)) (by decide) ?_
      refine Fr.pI (c := 53) (ci := 2) (k := 1) 1 (by decide +kernel : zi 87 44 = some (.putfield 62, 3)) (by decide +kernel) (by decide +kernel) (by decide +kernel) (by decide) rfl ?_
      refine Fr.ildn (by decide +kernel : zi 87 47 = some (.iload_n 1, 1)) rfl ?_
      refine Fr.if0 (q := 56) (by decide +kernel : zi 87 48 = some (.ifCond .lt 8, 3)) (by decide +kernel) (fun g9 => ?_) (fun g9 => ?_)
      · have h := h.1 g9
        refine Fr.aldn (c := 1) (by decide +kernel : zi 87 56 = some (.aload_n 0, 1)) rfl ⟨by omega, by omega⟩ ?_
        refine Fr.dup (by decide +kernel : zi 87 57 = some (.dup, 1)) rfl ?_
        refine Fr.gI (c := 0) (ci := 7) (k := 4) (t := 0) 4 (by decide +kernel : zi 87 58 = some (.getfield 66, 3)) (by decide +kernel) (by decide +kernel) (by decide +kernel) (by decide) rfl ?_
        refine Fr.iconst (by decide +kernel : zi 87 61 = some (.iconst 1, 1)) (by decide) ?_
        refine Fr.iadd (by decide +kernel : zi 87 62 = some (.iadd, 1)) ?_
        refine Fr.pI (c := 0) (ci := 7) (k := 4) 4 (by decide +kernel : zi 87 63 = some (.putfield 66, 3)) (by decide +kernel) (by decide +kernel) (by decide +kernel) (by decide) rfl ?_
        refine Fr.aldn (c := 1) (by decide +kernel : zi 87 66 = some (.aload_n 0, 1)) rfl ⟨by omega, by omega⟩ ?_
        refine Fr.gI (c := 0) (ci := 7) (k := 4) (t := 0) 4 (by decide +kernel : zi 87 67 = some (.getfield 66, 3)) (by decide +kernel) (by decide +kernel) (by decide +kernel) (by decide) rfl ?_
        refine Fr.iconst (by decide +kernel : zi 87 70 = some (.iconst 1, 1)) (by decide) ?_
        refine Fr.isub (by decide +kernel : zi 87 71 = some (.isub, 1)) ?_
        exact Fr.retI (by decide +kernel : zi 87 72 = some (.ireturn, 1)) (by decide +kernel) h
      · have h := h.2 g9
        refine Fr.bipush (by decide +kernel : zi 87 51 = some (.bipush (-100), 2)) (by decide) ?_
        refine Fr.ildn (by decide +kernel : zi 87 53 = some (.iload_n 1, 1)) rfl ?_
        refine Fr.isub (by decide +kernel : zi 87 54 = some (.isub, 1)) ?_
        exact Fr.retI (by decide +kernel : zi 87 55 = some (.ireturn, 1)) (by decide +kernel) h
    · have h := h.2 g9
      refine Fr.bipush (by decide +kernel : zi 87 19 = some (.bipush (-4), 2)) (by decide) ?_
      exact Fr.retI (by decide +kernel : zi 87 21 = some (.ireturn, 1)) (by decide +kernel) h
theorem e87 {xs : Nat → Int} {L : Nat} {d : Nat}  {s : Pl} {Q : Option AV → Pl → Prop} (hd : 1 ≤ d) (k : Fr xs L T0 106 (d - 1) 87 0 [some (rf 1), none] [] s Q) : Ev xs L T0 106 d 87 [rf 1] s Q := Ev.of (by decide) _ rfl hd k
-- 88 X7_force
theorem f88_0 {xs : Nat → Int} {L : Nat} {d : Nat} {v1 : Int} {s : Pl} {P : Int → Pl → Prop} (h : ((v1 < 0 → P (-2) s) ∧ (¬ (v1 < 0) → ((v1 < s 0 4 → P ((zup s 0 9 0) 1 2) (zup (zup s 0 9 0) 1 2 v1)) ∧ (¬ (v1 < s 0 4) → P (-2) s))))) : Fr xs L T0 106 d 88 0 [some (rf 1), some (it v1), none] [] s (qi P) := by
  refine Fr.ildn (by decide +kernel : zi 88 0 = some (.iload_n 1, 1)) rfl ?_
  refine Fr.if0 (q := 12) (by decide +kernel : zi 88 1 = some (.ifCond .lt 11, 3)) (by decide +kernel) (fun g9 => ?_) (fun g9 => ?_)
  · have h := h.1 g9
    refine Fr.bipush (by decide +kernel : zi 88 12 = some (.bipush (-2), 2)) (by decide) ?_
    exact Fr.retI (by decide +kernel : zi 88 14 = some (.ireturn, 1)) (by decide +kernel) h
  · have h := h.2 g9
    refine Fr.ildn (by decide +kernel : zi 88 4 = some (.iload_n 1, 1)) rfl ?_
    refine Fr.aldn (c := 1) (by decide +kernel : zi 88 5 = some (.aload_n 0, 1)) rfl ⟨by omega, by omega⟩ ?_
    refine Fr.gI (c := 0) (ci := 7) (k := 4) (t := 0) 4 (by decide +kernel : zi 88 6 = some (.getfield 66, 3)) (by decide +kernel) (by decide +kernel) (by decide +kernel) (by decide) rfl ?_
    refine Fr.if2 (q := 15) (by decide +kernel : zi 88 9 = some (.if_icmp .lt 6, 3)) (by decide +kernel) (fun g9 => ?_) (fun g9 => ?_)
    · have h := h.1 g9
      refine Fr.aldn (c := 1) (by decide +kernel : zi 88 15 = some (.aload_n 0, 1)) rfl ⟨by omega, by omega⟩ ?_
      refine Fr.iconst (by decide +kernel : zi 88 16 = some (.iconst 0, 1)) (by decide) ?_
      refine Fr.pZ (c := 0) (ci := 7) (k := 9) 9 (by decide +kernel : zi 88 17 = some (.putfield 98, 3)) (by decide +kernel) (by decide +kernel) (by decide) (by decide +kernel) (by decide) rfl ?_
      refine Fr.aldn (c := 1) (by decide +kernel : zi 88 20 = some (.aload_n 0, 1)) rfl ⟨by omega, by omega⟩ ?_
      refine Fr.gR (c := 0) (c2 := 2) (ci := 7) (k := 0) 0 (by decide +kernel : zi 88 21 = some (.getfield 10, 3)) (by decide +kernel) (by decide +kernel) (by decide +kernel) (by decide) rfl (fun q => q (0, 0, 2) (by decide +kernel)) ?_
      refine Fr.gI (c := 1) (ci := 0) (k := 2) (t := 0) 2 (by decide +kernel : zi 88 24 = some (.getfield 124, 3)) (by decide +kernel) (by decide +kernel) (by decide +kernel) (by decide) rfl ?_
      refine Fr.istn (lv2 := [some (rf 1), some (it v1), some (it ((zup s 0 9 0) 1 2))]) (by decide +kernel : zi 88 27 = some (.istore_n 2, 1)) (Nat.le_of_ble_eq_true rfl) rfl ?_
      refine Fr.aldn (c := 1) (by decide +kernel : zi 88 28 = some (.aload_n 0, 1)) rfl ⟨by omega, by omega⟩ ?_
      refine Fr.gR (c := 0) (c2 := 2) (ci := 7) (k := 0) 0 (by decide +kernel : zi 88 29 = some (.getfield 10, 3)) (by decide +kernel) (by decide +kernel) (by decide +kernel) (by decide) rfl (fun q => q (0, 0, 2) (by decide +kernel)) ?_
      refine Fr.ildn (by decide +kernel : zi 88 32 = some (.iload_n 1, 1)) rfl ?_
      refine Fr.pI (c := 1) (ci := 0) (k := 2) 2 (by decide +kernel : zi 88 33 = some (.putfield 124, 3)) (by decide +kernel) (by decide +kernel) (by decide +kernel) (by decide) rfl ?_
      refine Fr.ildn (by decide +kernel : zi 88 36 = some (.iload_n 2, 1)) rfl ?_
      exact Fr.retI (by decide +kernel : zi 88 37 = some (.ireturn, 1)) (by decide +kernel) h
    · have h := h.2 g9
      refine Fr.bipush (by decide +kernel : zi 88 12 = some (.bipush (-2), 2)) (by decide) ?_
      exact Fr.retI (by decide +kernel : zi 88 14 = some (.ireturn, 1)) (by decide +kernel) h
theorem e88 {xs : Nat → Int} {L : Nat} {d : Nat} {v1 : Int} {s : Pl} {Q : Option AV → Pl → Prop} (hd : 1 ≤ d) (k : Fr xs L T0 106 (d - 1) 88 0 [some (rf 1), some (it v1), none] [] s Q) : Ev xs L T0 106 d 88 [rf 1, it v1] s Q := Ev.of (by decide) _ rfl hd k
-- 89 X7_asks
theorem f89_0 {xs : Nat → Int} {L : Nat} {d : Nat} {v1 : Int} {v2 : Int} {v3 : Int} {v4 : Int} {s : Pl} {P : Int → Pl → Prop} (h : Ev xs L T0 106 d 122 [rf 1] s (qr fun c9 s1 => ∃ tq2 : Nat, tq2 < 6 ∧ c9 = 21 + 4 * tq2 + 1 ∧ Ev xs L T0 106 d 34 [rf 58, rf (21 + 4 * tq2 + 1)] s1 (qv fun s3 => ((¬ v1 = 0 → Fr xs L T0 106 d 89 65 [some (rf 1), some (it v1), some (it v2), some (it v3), some (it v4)] [] s3 (qi P)) ∧ (¬ (¬ v1 = 0) → Ev xs L T0 106 d 2 [rf 2, it v2] s3 (qi fun r5 s4 => ((r5 = 0 → Fr xs L T0 106 d 89 65 [some (rf 1), some (it v1), some (it v2), some (it v3), some (it v4)] [] s4 (qi P)) ∧ (¬ (r5 = 0) → Ev xs L T0 106 d 2 [rf 2, it v3] s4 (qi fun r7 s6 => ((r7 = 0 → Fr xs L T0 106 d 89 65 [some (rf 1), some (it v1), some (it v2), some (it v3), some (it v4)] [] s6 (qi P)) ∧ (¬ (r7 = 0) → Ev xs L T0 106 d 126 [it v4] s6 (qi fun r9 s8 => ((r9 = 0 → Fr xs L T0 106 d 89 65 [some (rf 1), some (it v1), some (it v2), some (it v3), some (it v4)] [] s8 (qi P)) ∧ (¬ (r9 = 0) → Ev xs L T0 106 d 36 [rf 58, it v2, it v3, it v4] s8 (qi fun r11 s10 => ((r11 = 0 → P 0 s10) ∧ (¬ (r11 = 0) → P 1 s10))))))))))))))))) : Fr xs L T0 106 d 89 0 [some (rf 1), some (it v1), some (it v2), some (it v3), some (it v4)] [] s (qi P) := by
  refine Fr.aldn (c := 1) (by decide +kernel : zi 89 0 = some (.aload_n 0, 1)) rfl ⟨by omega, by omega⟩ ?_
  refine Fr.gR (c := 0) (c2 := 58) (ci := 7) (k := 6) 6 (by decide +kernel : zi 89 1 = some (.getfield 74, 3)) (by decide +kernel) (by decide +kernel) (by decide +kernel) (by decide) rfl (fun q => q (0, 6, 58) (by decide +kernel)) ?_
  refine Fr.aldn (c := 1) (by decide +kernel : zi 89 4 = some (.aload_n 0, 1)) rfl ⟨by omega, by omega⟩ ?_
  refine Fr.callR (y2 := 122) (na := 1) (as := [rf 1]) (rest := [rf 58]) (by decide +kernel : zi 89 5 = some (.invokevirtual 130, 3)) rfl (by decide +kernel) (by decide +kernel) rfl rfl (zok_V rfl (by decide) (by decide +kernel) (by decide +kernel) (zrecv_c (c := 0) (by decide) (by decide +kernel)) rfl (Nat.le_of_ble_eq_true rfl)) h (fun c9 s1 h => ?_)
  obtain ⟨tq2, htq2, g0, h⟩ := h
  subst g0
  refine Fr.callV (y2 := 34) (na := 2) (as := [rf 58, rf (21 + 4 * tq2 + 1)]) (rest := []) (by decide +kernel : zi 89 8 = some (.invokevirtual 134, 3)) rfl (by decide +kernel) (by decide +kernel) rfl rfl (zok_V rfl (by decide) (by decide +kernel) (by decide +kernel) (zrecv_c (c := 57) (by decide) (by decide +kernel)) rfl (Nat.le_of_ble_eq_true rfl)) h (fun s3 h => ?_)
  refine Fr.ildn (by decide +kernel : zi 89 11 = some (.iload_n 1, 1)) rfl ?_
  refine Fr.if0 (q := 65) (by decide +kernel : zi 89 12 = some (.ifCond .ne 53, 3)) (by decide +kernel) (fun g9 => ?_) (fun g9 => ?_)
  · have h := h.1 g9
    exact h
  · have h := h.2 g9
    refine Fr.aldn (c := 1) (by decide +kernel : zi 89 15 = some (.aload_n 0, 1)) rfl ⟨by omega, by omega⟩ ?_
    refine Fr.gR (c := 0) (c2 := 2) (ci := 7) (k := 0) 0 (by decide +kernel : zi 89 16 = some (.getfield 10, 3)) (by decide +kernel) (by decide +kernel) (by decide +kernel) (by decide) rfl (fun q => q (0, 0, 2) (by decide +kernel)) ?_
    refine Fr.ildn (by decide +kernel : zi 89 19 = some (.iload_n 2, 1)) rfl ?_
    refine Fr.callI (y2 := 2) (na := 2) (as := [rf 2, it v2]) (rest := []) (by decide +kernel : zi 89 20 = some (.invokevirtual 137, 3)) rfl (by decide +kernel) (by decide +kernel) rfl rfl (zok_V rfl (by decide) (by decide +kernel) (by decide +kernel) (zrecv_c (c := 1) (by decide) (by decide +kernel)) rfl (Nat.le_of_ble_eq_true rfl)) h (fun r5 s4 h => ?_)
    refine Fr.if0 (q := 65) (by decide +kernel : zi 89 23 = some (.ifCond .eq 42, 3)) (by decide +kernel) (fun g9 => ?_) (fun g9 => ?_)
    · have h := h.1 g9
      exact h
    · have h := h.2 g9
      refine Fr.aldn (c := 1) (by decide +kernel : zi 89 26 = some (.aload_n 0, 1)) rfl ⟨by omega, by omega⟩ ?_
      refine Fr.gR (c := 0) (c2 := 2) (ci := 7) (k := 0) 0 (by decide +kernel : zi 89 27 = some (.getfield 10, 3)) (by decide +kernel) (by decide +kernel) (by decide +kernel) (by decide) rfl (fun q => q (0, 0, 2) (by decide +kernel)) ?_
      refine Fr.ildn (by decide +kernel : zi 89 30 = some (.iload_n 3, 1)) rfl ?_
      refine Fr.callI (y2 := 2) (na := 2) (as := [rf 2, it v3]) (rest := []) (by decide +kernel : zi 89 31 = some (.invokevirtual 137, 3)) rfl (by decide +kernel) (by decide +kernel) rfl rfl (zok_V rfl (by decide) (by decide +kernel) (by decide +kernel) (zrecv_c (c := 1) (by decide) (by decide +kernel)) rfl (Nat.le_of_ble_eq_true rfl)) h (fun r7 s6 h => ?_)
      refine Fr.if0 (q := 65) (by decide +kernel : zi 89 34 = some (.ifCond .eq 31, 3)) (by decide +kernel) (fun g9 => ?_) (fun g9 => ?_)
      · have h := h.1 g9
        exact h
      · have h := h.2 g9
        refine Fr.ild (by decide +kernel : zi 89 37 = some (.iload 4, 2)) rfl ?_
        refine Fr.callI (y2 := 126) (na := 1) (as := [it v4]) (rest := []) (by decide +kernel : zi 89 39 = some (.invokestatic 94, 3)) rfl (by decide +kernel) (by decide +kernel) rfl rfl (zok_S rfl (by decide) (by decide +kernel) rfl (Nat.le_of_ble_eq_true rfl)) h (fun r9 s8 h => ?_)
        refine Fr.if0 (q := 65) (by decide +kernel : zi 89 42 = some (.ifCond .eq 23, 3)) (by decide +kernel) (fun g9 => ?_) (fun g9 => ?_)
        · have h := h.1 g9
          exact h
        · have h := h.2 g9
          refine Fr.aldn (c := 1) (by decide +kernel : zi 89 45 = some (.aload_n 0, 1)) rfl ⟨by omega, by omega⟩ ?_
          refine Fr.gR (c := 0) (c2 := 58) (ci := 7) (k := 6) 6 (by decide +kernel : zi 89 46 = some (.getfield 74, 3)) (by decide +kernel) (by decide +kernel) (by decide +kernel) (by decide) rfl (fun q => q (0, 6, 58) (by decide +kernel)) ?_
          refine Fr.ildn (by decide +kernel : zi 89 49 = some (.iload_n 2, 1)) rfl ?_
          refine Fr.ildn (by decide +kernel : zi 89 50 = some (.iload_n 3, 1)) rfl ?_
          refine Fr.ild (by decide +kernel : zi 89 51 = some (.iload 4, 2)) rfl ?_
          refine Fr.callI (y2 := 36) (na := 4) (as := [rf 58, it v2, it v3, it v4]) (rest := []) (by decide +kernel : zi 89 53 = some (.invokevirtual 140, 3)) rfl (by decide +kernel) (by decide +kernel) rfl rfl (zok_V rfl (by decide) (by decide +kernel) (by decide +kernel) (zrecv_c (c := 57) (by decide) (by decide +kernel)) rfl (Nat.le_of_ble_eq_true rfl)) h (fun r11 s10 h => ?_)
          refine Fr.if0 (q := 63) (by decide +kernel : zi 89 56 = some (.ifCond .eq 7, 3)) (by decide +kernel) (fun g9 => ?_) (fun g9 => ?_)
          · have h := h.1 g9
            refine Fr.iconst (by decide +kernel : zi 89 63 = some (.iconst 0, 1)) (by decide) ?_
            exact Fr.retI (by decide +kernel : zi 89 64 = some (.ireturn, 1)) (by decide +kernel) h
          · have h := h.2 g9
            refine Fr.iconst (by decide +kernel : zi 89 59 = some (.iconst 1, 1)) (by decide) ?_
            refine Fr.goto (q := 64) (by decide +kernel : zi 89 60 = some (.goto 4, 3)) (by decide +kernel) ?_
            exact Fr.retI (by decide +kernel : zi 89 64 = some (.ireturn, 1)) (by decide +kernel) h
theorem e89 {xs : Nat → Int} {L : Nat} {d : Nat} {v1 : Int} {v2 : Int} {v3 : Int} {v4 : Int} {s : Pl} {Q : Option AV → Pl → Prop} (hd : 1 ≤ d) (k : Fr xs L T0 106 (d - 1) 89 0 [some (rf 1), some (it v1), some (it v2), some (it v3), some (it v4)] [] s Q) : Ev xs L T0 106 d 89 [rf 1, it v1, it v2, it v3, it v4] s Q := Ev.of (by decide) _ rfl hd k
theorem f89_65 {xs : Nat → Int} {L : Nat} {d : Nat} {v1 : Int} {v2 : Int} {v3 : Int} {v4 : Int} {s : Pl} {P : Int → Pl → Prop} (h : ((¬ v1 = 1 → Fr xs L T0 106 d 89 99 [some (rf 1), some (it v1), some (it v2), some (it v3), some (it v4)] [] s (qi P)) ∧ (¬ (¬ v1 = 1) → Ev xs L T0 106 d 126 [it v2] s (qi fun r2 s1 => ((r2 = 0 → Fr xs L T0 106 d 89 99 [some (rf 1), some (it v1), some (it v2), some (it v3), some (it v4)] [] s1 (qi P)) ∧ (¬ (r2 = 0) → Ev xs L T0 106 d 126 [it v3] s1 (qi fun r4 s3 => ((r4 = 0 → Fr xs L T0 106 d 89 99 [some (rf 1), some (it v1), some (it v2), some (it v3), some (it v4)] [] s3 (qi P)) ∧ (¬ (r4 = 0) → ((v2 = v3 → Fr xs L T0 106 d 89 99 [some (rf 1), some (it v1), some (it v2), some (it v3), some (it v4)] [] s3 (qi P)) ∧ (¬ (v2 = v3) → Ev xs L T0 106 d 37 [rf 58, it v2, it v3] s3 (qi fun r6 s5 => P r6 s5)))))))))))) : Fr xs L T0 106 d 89 65 [some (rf 1), some (it v1), some (it v2), some (it v3), some (it v4)] [] s (qi P) := by
  refine Fr.ildn (by decide +kernel : zi 89 65 = some (.iload_n 1, 1)) rfl ?_
  refine Fr.iconst (by decide +kernel : zi 89 66 = some (.iconst 1, 1)) (by decide) ?_
  refine Fr.if2 (q := 99) (by decide +kernel : zi 89 67 = some (.if_icmp .ne 32, 3)) (by decide +kernel) (fun g9 => ?_) (fun g9 => ?_)
  · have h := h.1 g9
    exact h
  · have h := h.2 g9
    refine Fr.ildn (by decide +kernel : zi 89 70 = some (.iload_n 2, 1)) rfl ?_
    refine Fr.callI (y2 := 126) (na := 1) (as := [it v2]) (rest := []) (by decide +kernel : zi 89 71 = some (.invokestatic 94, 3)) rfl (by decide +kernel) (by decide +kernel) rfl rfl (zok_S rfl (by decide) (by decide +kernel) rfl (Nat.le_of_ble_eq_true rfl)) h (fun r2 s1 h => ?_)
    refine Fr.if0 (q := 99) (by decide +kernel : zi 89 74 = some (.ifCond .eq 25, 3)) (by decide +kernel) (fun g9 => ?_) (fun g9 => ?_)
    · have h := h.1 g9
      exact h
    · have h := h.2 g9
      refine Fr.ildn (by decide +kernel : zi 89 77 = some (.iload_n 3, 1)) rfl ?_
      refine Fr.callI (y2 := 126) (na := 1) (as := [it v3]) (rest := []) (by decide +kernel : zi 89 78 = some (.invokestatic 94, 3)) rfl (by decide +kernel) (by decide +kernel) rfl rfl (zok_S rfl (by decide) (by decide +kernel) rfl (Nat.le_of_ble_eq_true rfl)) h (fun r4 s3 h => ?_)
      refine Fr.if0 (q := 99) (by decide +kernel : zi 89 81 = some (.ifCond .eq 18, 3)) (by decide +kernel) (fun g9 => ?_) (fun g9 => ?_)
      · have h := h.1 g9
        exact h
      · have h := h.2 g9
        refine Fr.ildn (by decide +kernel : zi 89 84 = some (.iload_n 2, 1)) rfl ?_
        refine Fr.ildn (by decide +kernel : zi 89 85 = some (.iload_n 3, 1)) rfl ?_
        refine Fr.if2 (q := 99) (by decide +kernel : zi 89 86 = some (.if_icmp .eq 13, 3)) (by decide +kernel) (fun g9 => ?_) (fun g9 => ?_)
        · have h := h.1 g9
          exact h
        · have h := h.2 g9
          refine Fr.aldn (c := 1) (by decide +kernel : zi 89 89 = some (.aload_n 0, 1)) rfl ⟨by omega, by omega⟩ ?_
          refine Fr.gR (c := 0) (c2 := 58) (ci := 7) (k := 6) 6 (by decide +kernel : zi 89 90 = some (.getfield 74, 3)) (by decide +kernel) (by decide +kernel) (by decide +kernel) (by decide) rfl (fun q => q (0, 6, 58) (by decide +kernel)) ?_
          refine Fr.ildn (by decide +kernel : zi 89 93 = some (.iload_n 2, 1)) rfl ?_
          refine Fr.ildn (by decide +kernel : zi 89 94 = some (.iload_n 3, 1)) rfl ?_
          refine Fr.callI (y2 := 37) (na := 3) (as := [rf 58, it v2, it v3]) (rest := []) (by decide +kernel : zi 89 95 = some (.invokevirtual 144, 3)) rfl (by decide +kernel) (by decide +kernel) rfl rfl (zok_V rfl (by decide) (by decide +kernel) (by decide +kernel) (zrecv_c (c := 57) (by decide) (by decide +kernel)) rfl (Nat.le_of_ble_eq_true rfl)) h (fun r6 s5 h => ?_)
          exact Fr.retI (by decide +kernel : zi 89 98 = some (.ireturn, 1)) (by decide +kernel) h
theorem f89_99 {xs : Nat → Int} {L : Nat} {d : Nat} {v1 : Int} {v2 : Int} {v3 : Int} {v4 : Int} {s : Pl} {P : Int → Pl → Prop} (h : ((¬ v1 = 2 → P (-2) s) ∧ (¬ (¬ v1 = 2) → Ev xs L T0 106 d 2 [rf 2, it v2] s (qi fun r2 s1 => ((r2 = 0 → P (-2) s1) ∧ (¬ (r2 = 0) → ((v3 < 0 → P (-2) s1) ∧ (¬ (v3 < 0) → ((400 < v3 → P (-2) s1) ∧ (¬ (400 < v3) → Ev xs L T0 106 d 38 [rf 58, it v2, it v3] s1 (qi fun r4 s3 => P r4 s3))))))))))) : Fr xs L T0 106 d 89 99 [some (rf 1), some (it v1), some (it v2), some (it v3), some (it v4)] [] s (qi P) := by
  refine Fr.ildn (by decide +kernel : zi 89 99 = some (.iload_n 1, 1)) rfl ?_
  refine Fr.iconst (by decide +kernel : zi 89 100 = some (.iconst 2, 1)) (by decide) ?_
  refine Fr.if2 (q := 136) (by decide +kernel : zi 89 101 = some (.if_icmp .ne 35, 3)) (by decide +kernel) (fun g9 => ?_) (fun g9 => ?_)
  · have h := h.1 g9
    refine Fr.bipush (by decide +kernel : zi 89 136 = some (.bipush (-2), 2)) (by decide) ?_
    exact Fr.retI (by decide +kernel : zi 89 138 = some (.ireturn, 1)) (by decide +kernel) h
  · have h := h.2 g9
    refine Fr.aldn (c := 1) (by decide +kernel : zi 89 104 = some (.aload_n 0, 1)) rfl ⟨by omega, by omega⟩ ?_
    refine Fr.gR (c := 0) (c2 := 2) (ci := 7) (k := 0) 0 (by decide +kernel : zi 89 105 = some (.getfield 10, 3)) (by decide +kernel) (by decide +kernel) (by decide +kernel) (by decide) rfl (fun q => q (0, 0, 2) (by decide +kernel)) ?_
    refine Fr.ildn (by decide +kernel : zi 89 108 = some (.iload_n 2, 1)) rfl ?_
    refine Fr.callI (y2 := 2) (na := 2) (as := [rf 2, it v2]) (rest := []) (by decide +kernel : zi 89 109 = some (.invokevirtual 137, 3)) rfl (by decide +kernel) (by decide +kernel) rfl rfl (zok_V rfl (by decide) (by decide +kernel) (by decide +kernel) (zrecv_c (c := 1) (by decide) (by decide +kernel)) rfl (Nat.le_of_ble_eq_true rfl)) h (fun r2 s1 h => ?_)
    refine Fr.if0 (q := 136) (by decide +kernel : zi 89 112 = some (.ifCond .eq 24, 3)) (by decide +kernel) (fun g9 => ?_) (fun g9 => ?_)
    · have h := h.1 g9
      refine Fr.bipush (by decide +kernel : zi 89 136 = some (.bipush (-2), 2)) (by decide) ?_
      exact Fr.retI (by decide +kernel : zi 89 138 = some (.ireturn, 1)) (by decide +kernel) h
    · have h := h.2 g9
      refine Fr.ildn (by decide +kernel : zi 89 115 = some (.iload_n 3, 1)) rfl ?_
      refine Fr.if0 (q := 136) (by decide +kernel : zi 89 116 = some (.ifCond .lt 20, 3)) (by decide +kernel) (fun g9 => ?_) (fun g9 => ?_)
      · have h := h.1 g9
        refine Fr.bipush (by decide +kernel : zi 89 136 = some (.bipush (-2), 2)) (by decide) ?_
        exact Fr.retI (by decide +kernel : zi 89 138 = some (.ireturn, 1)) (by decide +kernel) h
      · have h := h.2 g9
        refine Fr.ildn (by decide +kernel : zi 89 119 = some (.iload_n 3, 1)) rfl ?_
        refine Fr.sipush (by decide +kernel : zi 89 120 = some (.sipush 400, 3)) (by decide) ?_
        refine Fr.if2 (q := 136) (by decide +kernel : zi 89 123 = some (.if_icmp .gt 13, 3)) (by decide +kernel) (fun g9 => ?_) (fun g9 => ?_)
        · have h := h.1 g9
          refine Fr.bipush (by decide +kernel : zi 89 136 = some (.bipush (-2), 2)) (by decide) ?_
          exact Fr.retI (by decide +kernel : zi 89 138 = some (.ireturn, 1)) (by decide +kernel) h
        · have h := h.2 g9
          refine Fr.aldn (c := 1) (by decide +kernel : zi 89 126 = some (.aload_n 0, 1)) rfl ⟨by omega, by omega⟩ ?_
          refine Fr.gR (c := 0) (c2 := 58) (ci := 7) (k := 6) 6 (by decide +kernel : zi 89 127 = some (.getfield 74, 3)) (by decide +kernel) (by decide +kernel) (by decide +kernel) (by decide) rfl (fun q => q (0, 6, 58) (by decide +kernel)) ?_
          refine Fr.ildn (by decide +kernel : zi 89 130 = some (.iload_n 2, 1)) rfl ?_
          refine Fr.ildn (by decide +kernel : zi 89 131 = some (.iload_n 3, 1)) rfl ?_
          refine Fr.callI (y2 := 38) (na := 3) (as := [rf 58, it v2, it v3]) (rest := []) (by decide +kernel : zi 89 132 = some (.invokevirtual 148, 3)) rfl (by decide +kernel) (by decide +kernel) rfl rfl (zok_V rfl (by decide) (by decide +kernel) (by decide +kernel) (zrecv_c (c := 57) (by decide) (by decide +kernel)) rfl (Nat.le_of_ble_eq_true rfl)) h (fun r4 s3 h => ?_)
          exact Fr.retI (by decide +kernel : zi 89 135 = some (.ireturn, 1)) (by decide +kernel) h
-- 90 X7_person
theorem f90_0 {xs : Nat → Int} {L : Nat} {d : Nat} {v1 : Int} {v2 : Int} {v3 : Int} {v4 : Int} {s : Pl} {P : Int → Pl → Prop} (h : ((v1 < 0 → Fr xs L T0 106 d 90 14 [some (rf 1), some (it v1), some (it v2), some (it v3), some (it v4), none, none] [] s (qi P)) ∧ (¬ (v1 < 0) → ((6 ≤ v1 → Fr xs L T0 106 d 90 14 [some (rf 1), some (it v1), some (it v2), some (it v3), some (it v4), none, none] [] s (qi P)) ∧ (¬ (6 ≤ v1) → Fr xs L T0 106 d 90 15 [some (rf 1), some (it v1), some (it v2), some (it v3), some (it v4), none, none] [it 1] s (qi P)))))) : Fr xs L T0 106 d 90 0 [some (rf 1), some (it v1), some (it v2), some (it v3), some (it v4), none, none] [] s (qi P) := by
  refine Fr.ildn (by decide +kernel : zi 90 0 = some (.iload_n 1, 1)) rfl ?_
  refine Fr.if0 (q := 14) (by decide +kernel : zi 90 1 = some (.ifCond .lt 13, 3)) (by decide +kernel) (fun g9 => ?_) (fun g9 => ?_)
  · have h := h.1 g9
    exact h
  · have h := h.2 g9
    refine Fr.ildn (by decide +kernel : zi 90 4 = some (.iload_n 1, 1)) rfl ?_
    refine Fr.bipush (by decide +kernel : zi 90 5 = some (.bipush 6, 2)) (by decide) ?_
    refine Fr.if2 (q := 14) (by decide +kernel : zi 90 7 = some (.if_icmp .ge 7, 3)) (by decide +kernel) (fun g9 => ?_) (fun g9 => ?_)
    · have h := h.1 g9
      exact h
    · have h := h.2 g9
      refine Fr.iconst (by decide +kernel : zi 90 10 = some (.iconst 1, 1)) (by decide) ?_
      refine Fr.goto (q := 15) (by decide +kernel : zi 90 11 = some (.goto 4, 3)) (by decide +kernel) ?_
      exact h
theorem e90 {xs : Nat → Int} {L : Nat} {d : Nat} {v1 : Int} {v2 : Int} {v3 : Int} {v4 : Int} {s : Pl} {Q : Option AV → Pl → Prop} (hd : 1 ≤ d) (k : Fr xs L T0 106 (d - 1) 90 0 [some (rf 1), some (it v1), some (it v2), some (it v3), some (it v4), none, none] [] s Q) : Ev xs L T0 106 d 90 [rf 1, it v1, it v2, it v3, it v4] s Q := Ev.of (by decide) _ rfl hd k
theorem f90_14 {xs : Nat → Int} {L : Nat} {d : Nat} {v1 : Int} {v2 : Int} {v3 : Int} {v4 : Int} {s : Pl} {P : Int → Pl → Prop} (h : Fr xs L T0 106 d 90 15 [some (rf 1), some (it v1), some (it v2), some (it v3), some (it v4), none, none] [it 0] s (qi P)) : Fr xs L T0 106 d 90 14 [some (rf 1), some (it v1), some (it v2), some (it v3), some (it v4), none, none] [] s (qi P) := by
  refine Fr.iconst (by decide +kernel : zi 90 14 = some (.iconst 0, 1)) (by decide) ?_
  exact h
theorem f90_15 {xs : Nat → Int} {L : Nat} {d : Nat} {v1 : Int} {v2 : Int} {v3 : Int} {v4 : Int} {vs0 : Int} {s : Pl} {P : Int → Pl → Prop} (h : ((v2 < 0 → Fr xs L T0 106 d 90 41 [some (rf 1), some (it v1), some (it v2), some (it v3), some (it v4), some (it vs0), none] [] s (qi P)) ∧ (¬ (v2 < 0) → ((4 < zdiv v2 10 → Fr xs L T0 106 d 90 41 [some (rf 1), some (it v1), some (it v2), some (it v3), some (it v4), some (it vs0), none] [] s (qi P)) ∧ (¬ (4 < zdiv v2 10) → ((4 ≤ zrem v2 10 → Fr xs L T0 106 d 90 41 [some (rf 1), some (it v1), some (it v2), some (it v3), some (it v4), some (it vs0), none] [] s (qi P)) ∧ (¬ (4 ≤ zrem v2 10) → Fr xs L T0 106 d 90 42 [some (rf 1), some (it v1), some (it v2), some (it v3), some (it v4), some (it vs0), none] [it 1] s (qi P)))))))) : Fr xs L T0 106 d 90 15 [some (rf 1), some (it v1), some (it v2), some (it v3), some (it v4), none, none] [it vs0] s (qi P) := by
  refine Fr.ist (lv2 := [some (rf 1), some (it v1), some (it v2), some (it v3), some (it v4), some (it vs0), none]) (by decide +kernel : zi 90 15 = some (.istore 5, 2)) (Nat.le_of_ble_eq_true rfl) rfl ?_
  refine Fr.ildn (by decide +kernel : zi 90 17 = some (.iload_n 2, 1)) rfl ?_
  refine Fr.if0 (q := 41) (by decide +kernel : zi 90 18 = some (.ifCond .lt 23, 3)) (by decide +kernel) (fun g9 => ?_) (fun g9 => ?_)
  · have h := h.1 g9
    exact h
  · have h := h.2 g9
    refine Fr.ildn (by decide +kernel : zi 90 21 = some (.iload_n 2, 1)) rfl ?_
    refine Fr.bipush (by decide +kernel : zi 90 22 = some (.bipush 10, 2)) (by decide) ?_
    refine Fr.idiv (by decide +kernel : zi 90 24 = some (.idiv, 1)) (by decide) ?_
    refine Fr.iconst (by decide +kernel : zi 90 25 = some (.iconst 4, 1)) (by decide) ?_
    refine Fr.if2 (q := 41) (by decide +kernel : zi 90 26 = some (.if_icmp .gt 15, 3)) (by decide +kernel) (fun g9 => ?_) (fun g9 => ?_)
    · have h := h.1 g9
      exact h
    · have h := h.2 g9
      refine Fr.ildn (by decide +kernel : zi 90 29 = some (.iload_n 2, 1)) rfl ?_
      refine Fr.bipush (by decide +kernel : zi 90 30 = some (.bipush 10, 2)) (by decide) ?_
      refine Fr.irem (by decide +kernel : zi 90 32 = some (.irem, 1)) (by decide) ?_
      refine Fr.iconst (by decide +kernel : zi 90 33 = some (.iconst 4, 1)) (by decide) ?_
      refine Fr.if2 (q := 41) (by decide +kernel : zi 90 34 = some (.if_icmp .ge 7, 3)) (by decide +kernel) (fun g9 => ?_) (fun g9 => ?_)
      · have h := h.1 g9
        exact h
      · have h := h.2 g9
        refine Fr.iconst (by decide +kernel : zi 90 37 = some (.iconst 1, 1)) (by decide) ?_
        refine Fr.goto (q := 42) (by decide +kernel : zi 90 38 = some (.goto 4, 3)) (by decide +kernel) ?_
        exact h
theorem f90_41 {xs : Nat → Int} {L : Nat} {d : Nat} {v1 : Int} {v2 : Int} {v3 : Int} {v4 : Int} {v5 : Int} {s : Pl} {P : Int → Pl → Prop} (h : Fr xs L T0 106 d 90 42 [some (rf 1), some (it v1), some (it v2), some (it v3), some (it v4), some (it v5), none] [it 0] s (qi P)) : Fr xs L T0 106 d 90 41 [some (rf 1), some (it v1), some (it v2), some (it v3), some (it v4), some (it v5), none] [] s (qi P) := by
  refine Fr.iconst (by decide +kernel : zi 90 41 = some (.iconst 0, 1)) (by decide) ?_
  exact h
theorem f90_42 {xs : Nat → Int} {L : Nat} {d : Nat} {v1 : Int} {v2 : Int} {v3 : Int} {v4 : Int} {v5 : Int} {vs0 : Int} {s : Pl} {P : Int → Pl → Prop} (h : ((v5 = 0 → P (-2) s) ∧ (¬ (v5 = 0) → ((vs0 = 0 → P (-2) s) ∧ (¬ (vs0 = 0) → ((v3 < 0 → P (-2) s) ∧ (¬ (v3 < 0) → ((9999 < v3 → P (-2) s) ∧ (¬ (9999 < v3) → ((v4 < 0 → P (-2) s) ∧ (¬ (v4 < 0) → ((v4 < 6 → ((s 1 1 < 6 → ((¬ zdiv v2 10 = 4 → Fr xs L T0 106 d 90 121 [some (rf 1), some (it v1), some (it v2), some (it v3), some (it v4), some (it v5), some (it vs0)] [] s (qi P)) ∧ (¬ (¬ zdiv v2 10 = 4) → Ev xs L T0 106 d 6 [rf 2, it 4] s (qi fun r2 s1 => Ev xs L T0 106 d 228 [it r2] s1 (qi fun r4 s3 => ((r4 < 3 → Fr xs L T0 106 d 90 121 [some (rf 1), some (it v1), some (it v2), some (it v3), some (it v4), some (it v5), some (it vs0)] [] s3 (qi P)) ∧ (¬ (r4 < 3) → P (-3) s3))))))) ∧ (¬ (s 1 1 < 6) → P (-4) s))) ∧ (¬ (v4 < 6) → P (-2) s))))))))))))) : Fr xs L T0 106 d 90 42 [some (rf 1), some (it v1), some (it v2), some (it v3), some (it v4), some (it v5), none] [it vs0] s (qi P) := by
  refine Fr.ist (lv2 := [some (rf 1), some (it v1), some (it v2), some (it v3), some (it v4), some (it v5), some (it vs0)]) (by decide +kernel : zi 90 42 = some (.istore 6, 2)) (Nat.le_of_ble_eq_true rfl) rfl ?_
  refine Fr.ild (by decide +kernel : zi 90 44 = some (.iload 5, 2)) rfl ?_
  refine Fr.if0 (q := 77) (by decide +kernel : zi 90 46 = some (.ifCond .eq 31, 3)) (by decide +kernel) (fun g9 => ?_) (fun g9 => ?_)
  · have h := h.1 g9
    refine Fr.bipush (by decide +kernel : zi 90 77 = some (.bipush (-2), 2)) (by decide) ?_
    exact Fr.retI (by decide +kernel : zi 90 79 = some (.ireturn, 1)) (by decide +kernel) h
  · have h := h.2 g9
    refine Fr.ild (by decide +kernel : zi 90 49 = some (.iload 6, 2)) rfl ?_
    refine Fr.if0 (q := 77) (by decide +kernel : zi 90 51 = some (.ifCond .eq 26, 3)) (by decide +kernel) (fun g9 => ?_) (fun g9 => ?_)
    · have h := h.1 g9
      refine Fr.bipush (by decide +kernel : zi 90 77 = some (.bipush (-2), 2)) (by decide) ?_
      exact Fr.retI (by decide +kernel : zi 90 79 = some (.ireturn, 1)) (by decide +kernel) h
    · have h := h.2 g9
      refine Fr.ildn (by decide +kernel : zi 90 54 = some (.iload_n 3, 1)) rfl ?_
      refine Fr.if0 (q := 77) (by decide +kernel : zi 90 55 = some (.ifCond .lt 22, 3)) (by decide +kernel) (fun g9 => ?_) (fun g9 => ?_)
      · have h := h.1 g9
        refine Fr.bipush (by decide +kernel : zi 90 77 = some (.bipush (-2), 2)) (by decide) ?_
        exact Fr.retI (by decide +kernel : zi 90 79 = some (.ireturn, 1)) (by decide +kernel) h
      · have h := h.2 g9
        refine Fr.ildn (by decide +kernel : zi 90 58 = some (.iload_n 3, 1)) rfl ?_
        refine Fr.sipush (by decide +kernel : zi 90 59 = some (.sipush 9999, 3)) (by decide) ?_
        refine Fr.if2 (q := 77) (by decide +kernel : zi 90 62 = some (.if_icmp .gt 15, 3)) (by decide +kernel) (fun g9 => ?_) (fun g9 => ?_)
        · have h := h.1 g9
          refine Fr.bipush (by decide +kernel : zi 90 77 = some (.bipush (-2), 2)) (by decide) ?_
          exact Fr.retI (by decide +kernel : zi 90 79 = some (.ireturn, 1)) (by decide +kernel) h
        · have h := h.2 g9
          refine Fr.ild (by decide +kernel : zi 90 65 = some (.iload 4, 2)) rfl ?_
          refine Fr.if0 (q := 77) (by decide +kernel : zi 90 67 = some (.ifCond .lt 10, 3)) (by decide +kernel) (fun g9 => ?_) (fun g9 => ?_)
          · have h := h.1 g9
            refine Fr.bipush (by decide +kernel : zi 90 77 = some (.bipush (-2), 2)) (by decide) ?_
            exact Fr.retI (by decide +kernel : zi 90 79 = some (.ireturn, 1)) (by decide +kernel) h
          · have h := h.2 g9
            refine Fr.ild (by decide +kernel : zi 90 70 = some (.iload 4, 2)) rfl ?_
            refine Fr.bipush (by decide +kernel : zi 90 72 = some (.bipush 6, 2)) (by decide) ?_
            refine Fr.if2 (q := 80) (by decide +kernel : zi 90 74 = some (.if_icmp .lt 6, 3)) (by decide +kernel) (fun g9 => ?_) (fun g9 => ?_)
            · have h := h.1 g9
              refine Fr.aldn (c := 1) (by decide +kernel : zi 90 80 = some (.aload_n 0, 1)) rfl ⟨by omega, by omega⟩ ?_
              refine Fr.gR (c := 0) (c2 := 2) (ci := 7) (k := 0) 0 (by decide +kernel : zi 90 81 = some (.getfield 10, 3)) (by decide +kernel) (by decide +kernel) (by decide +kernel) (by decide) rfl (fun q => q (0, 0, 2) (by decide +kernel)) ?_
              refine Fr.gI (c := 1) (ci := 0) (k := 1) (t := 0) 1 (by decide +kernel : zi 90 84 = some (.getfield 109, 3)) (by decide +kernel) (by decide +kernel) (by decide +kernel) (by decide) rfl ?_
              refine Fr.bipush (by decide +kernel : zi 90 87 = some (.bipush 6, 2)) (by decide) ?_
              refine Fr.if2 (q := 95) (by decide +kernel : zi 90 89 = some (.if_icmp .lt 6, 3)) (by decide +kernel) (fun g9 => ?_) (fun g9 => ?_)
              · have h := h.1 g9
                refine Fr.ildn (by decide +kernel : zi 90 95 = some (.iload_n 2, 1)) rfl ?_
                refine Fr.bipush (by decide +kernel : zi 90 96 = some (.bipush 10, 2)) (by decide) ?_
                refine Fr.idiv (by decide +kernel : zi 90 98 = some (.idiv, 1)) (by decide) ?_
                refine Fr.iconst (by decide +kernel : zi 90 99 = some (.iconst 4, 1)) (by decide) ?_
                refine Fr.if2 (q := 121) (by decide +kernel : zi 90 100 = some (.if_icmp .ne 21, 3)) (by decide +kernel) (fun g9 => ?_) (fun g9 => ?_)
                · have h := h.1 g9
                  exact h
                · have h := h.2 g9
                  refine Fr.aldn (c := 1) (by decide +kernel : zi 90 103 = some (.aload_n 0, 1)) rfl ⟨by omega, by omega⟩ ?_
                  refine Fr.gR (c := 0) (c2 := 2) (ci := 7) (k := 0) 0 (by decide +kernel : zi 90 104 = some (.getfield 10, 3)) (by decide +kernel) (by decide +kernel) (by decide +kernel) (by decide) rfl (fun q => q (0, 0, 2) (by decide +kernel)) ?_
                  refine Fr.iconst (by decide +kernel : zi 90 107 = some (.iconst 4, 1)) (by decide) ?_
                  refine Fr.callI (y2 := 6) (na := 2) (as := [rf 2, it 4]) (rest := []) (by decide +kernel : zi 90 108 = some (.invokevirtual 112, 3)) rfl (by decide +kernel) (by decide +kernel) rfl rfl (zok_V rfl (by decide) (by decide +kernel) (by decide +kernel) (zrecv_c (c := 1) (by decide) (by decide +kernel)) rfl (Nat.le_of_ble_eq_true rfl)) h (fun r2 s1 h => ?_)
                  refine Fr.callI (y2 := 228) (na := 1) (as := [it r2]) (rest := []) (by decide +kernel : zi 90 111 = some (.invokestatic 116, 3)) rfl (by decide +kernel) (by decide +kernel) rfl rfl (zok_S rfl (by decide) (by decide +kernel) rfl (Nat.le_of_ble_eq_true rfl)) h (fun r4 s3 h => ?_)
                  refine Fr.iconst (by decide +kernel : zi 90 114 = some (.iconst 3, 1)) (by decide) ?_
                  refine Fr.if2 (q := 121) (by decide +kernel : zi 90 115 = some (.if_icmp .lt 6, 3)) (by decide +kernel) (fun g9 => ?_) (fun g9 => ?_)
                  · have h := h.1 g9
                    exact h
                  · have h := h.2 g9
                    refine Fr.bipush (by decide +kernel : zi 90 118 = some (.bipush (-3), 2)) (by decide) ?_
                    exact Fr.retI (by decide +kernel : zi 90 120 = some (.ireturn, 1)) (by decide +kernel) h
              · have h := h.2 g9
                refine Fr.bipush (by decide +kernel : zi 90 92 = some (.bipush (-4), 2)) (by decide) ?_
                exact Fr.retI (by decide +kernel : zi 90 94 = some (.ireturn, 1)) (by decide +kernel) h
            · have h := h.2 g9
              refine Fr.bipush (by decide +kernel : zi 90 77 = some (.bipush (-2), 2)) (by decide) ?_
              exact Fr.retI (by decide +kernel : zi 90 79 = some (.ireturn, 1)) (by decide +kernel) h
theorem f90_121 {xs : Nat → Int} {L : Nat} {d : Nat} {v1 : Int} {v2 : Int} {v3 : Int} {v4 : Int} {v5 : Int} {v6 : Int} {s : Pl} {P : Int → Pl → Prop} (h : Ev xs L T0 106 d 3 [rf 2, it v1, it v2, it v3, it v4] (zup s 0 9 0) (qv fun s1 => P (zw ((s1 1 1) - 1)) s1)) : Fr xs L T0 106 d 90 121 [some (rf 1), some (it v1), some (it v2), some (it v3), some (it v4), some (it v5), some (it v6)] [] s (qi P) := by
  refine Fr.aldn (c := 1) (by decide +kernel : zi 90 121 = some (.aload_n 0, 1)) rfl ⟨by omega, by omega⟩ ?_
  refine Fr.iconst (by decide +kernel : zi 90 122 = some (.iconst 0, 1)) (by decide) ?_
  refine Fr.pZ (c := 0) (ci := 7) (k := 9) 9 (by decide +kernel : zi 90 123 = some (.putfield 98, 3)) (by decide +kernel) (by decide +kernel) (by decide) (by decide +kernel) (by decide) rfl ?_
  refine Fr.aldn (c := 1) (by decide +kernel : zi 90 126 = some (.aload_n 0, 1)) rfl ⟨by omega, by omega⟩ ?_
  refine Fr.gR (c := 0) (c2 := 2) (ci := 7) (k := 0) 0 (by decide +kernel : zi 90 127 = some (.getfield 10, 3)) (by decide +kernel) (by decide +kernel) (by decide +kernel) (by decide) rfl (fun q => q (0, 0, 2) (by decide +kernel)) ?_
  refine Fr.ildn (by decide +kernel : zi 90 130 = some (.iload_n 1, 1)) rfl ?_
  refine Fr.ildn (by decide +kernel : zi 90 131 = some (.iload_n 2, 1)) rfl ?_
  refine Fr.ildn (by decide +kernel : zi 90 132 = some (.iload_n 3, 1)) rfl ?_
  refine Fr.ild (by decide +kernel : zi 90 133 = some (.iload 4, 2)) rfl ?_
  refine Fr.callV (y2 := 3) (na := 5) (as := [rf 2, it v1, it v2, it v3, it v4]) (rest := []) (by decide +kernel : zi 90 135 = some (.invokevirtual 151, 3)) rfl (by decide +kernel) (by decide +kernel) rfl rfl (zok_V rfl (by decide) (by decide +kernel) (by decide +kernel) (zrecv_c (c := 1) (by decide) (by decide +kernel)) rfl (Nat.le_of_ble_eq_true rfl)) h (fun s1 h => ?_)
  refine Fr.aldn (c := 1) (by decide +kernel : zi 90 138 = some (.aload_n 0, 1)) rfl ⟨by omega, by omega⟩ ?_
  refine Fr.gR (c := 0) (c2 := 2) (ci := 7) (k := 0) 0 (by decide +kernel : zi 90 139 = some (.getfield 10, 3)) (by decide +kernel) (by decide +kernel) (by decide +kernel) (by decide) rfl (fun q => q (0, 0, 2) (by decide +kernel)) ?_
  refine Fr.gI (c := 1) (ci := 0) (k := 1) (t := 0) 1 (by decide +kernel : zi 90 142 = some (.getfield 109, 3)) (by decide +kernel) (by decide +kernel) (by decide +kernel) (by decide) rfl ?_
  refine Fr.iconst (by decide +kernel : zi 90 145 = some (.iconst 1, 1)) (by decide) ?_
  refine Fr.isub (by decide +kernel : zi 90 146 = some (.isub, 1)) ?_
  exact Fr.retI (by decide +kernel : zi 90 147 = some (.ireturn, 1)) (by decide +kernel) h
-- 91 X7_foe
theorem f91_0 {xs : Nat → Int} {L : Nat} {d : Nat} {v1 : Int} {v2 : Int} {v3 : Int} {s : Pl} {P : Int → Pl → Prop} (h : Ev xs L T0 106 d 2 [rf 2, it v1] s (qi fun r2 s1 => ((r2 = 0 → P (-1) s1) ∧ (¬ (r2 = 0) → Ev xs L T0 106 d 2 [rf 2, it v2] s1 (qi fun r4 s3 => ((r4 = 0 → P (-1) s3) ∧ (¬ (r4 = 0) → ((¬ v1 = v2 → ((v3 = 0 → Fr xs L T0 106 d 91 41 [some (rf 1), some (it v1), some (it v2), some (it v3)] [] s3 (qi P)) ∧ (¬ (v3 = 0) → ((v3 = 1 → Fr xs L T0 106 d 91 41 [some (rf 1), some (it v1), some (it v2), some (it v3)] [] s3 (qi P)) ∧ (¬ (v3 = 1) → P (-2) s3))))) ∧ (¬ (¬ v1 = v2) → P (-1) s3))))))))) : Fr xs L T0 106 d 91 0 [some (rf 1), some (it v1), some (it v2), some (it v3)] [] s (qi P) := by
  refine Fr.aldn (c := 1) (by decide +kernel : zi 91 0 = some (.aload_n 0, 1)) rfl ⟨by omega, by omega⟩ ?_
  refine Fr.gR (c := 0) (c2 := 2) (ci := 7) (k := 0) 0 (by decide +kernel : zi 91 1 = some (.getfield 10, 3)) (by decide +kernel) (by decide +kernel) (by decide +kernel) (by decide) rfl (fun q => q (0, 0, 2) (by decide +kernel)) ?_
  refine Fr.ildn (by decide +kernel : zi 91 4 = some (.iload_n 1, 1)) rfl ?_
  refine Fr.callI (y2 := 2) (na := 2) (as := [rf 2, it v1]) (rest := []) (by decide +kernel : zi 91 5 = some (.invokevirtual 137, 3)) rfl (by decide +kernel) (by decide +kernel) rfl rfl (zok_V rfl (by decide) (by decide +kernel) (by decide +kernel) (zrecv_c (c := 1) (by decide) (by decide +kernel)) rfl (Nat.le_of_ble_eq_true rfl)) h (fun r2 s1 h => ?_)
  refine Fr.if0 (q := 27) (by decide +kernel : zi 91 8 = some (.ifCond .eq 19, 3)) (by decide +kernel) (fun g9 => ?_) (fun g9 => ?_)
  · have h := h.1 g9
    refine Fr.iconst (by decide +kernel : zi 91 27 = some (.iconst (-1), 1)) (by decide) ?_
    exact Fr.retI (by decide +kernel : zi 91 28 = some (.ireturn, 1)) (by decide +kernel) h
  · have h := h.2 g9
    refine Fr.aldn (c := 1) (by decide +kernel : zi 91 11 = some (.aload_n 0, 1)) rfl ⟨by omega, by omega⟩ ?_
    refine Fr.gR (c := 0) (c2 := 2) (ci := 7) (k := 0) 0 (by decide +kernel : zi 91 12 = some (.getfield 10, 3)) (by decide +kernel) (by decide +kernel) (by decide +kernel) (by decide) rfl (fun q => q (0, 0, 2) (by decide +kernel)) ?_
    refine Fr.ildn (by decide +kernel : zi 91 15 = some (.iload_n 2, 1)) rfl ?_
    refine Fr.callI (y2 := 2) (na := 2) (as := [rf 2, it v2]) (rest := []) (by decide +kernel : zi 91 16 = some (.invokevirtual 137, 3)) rfl (by decide +kernel) (by decide +kernel) rfl rfl (zok_V rfl (by decide) (by decide +kernel) (by decide +kernel) (zrecv_c (c := 1) (by decide) (by decide +kernel)) rfl (Nat.le_of_ble_eq_true rfl)) h (fun r4 s3 h => ?_)
    refine Fr.if0 (q := 27) (by decide +kernel : zi 91 19 = some (.ifCond .eq 8, 3)) (by decide +kernel) (fun g9 => ?_) (fun g9 => ?_)
    · have h := h.1 g9
      refine Fr.iconst (by decide +kernel : zi 91 27 = some (.iconst (-1), 1)) (by decide) ?_
      exact Fr.retI (by decide +kernel : zi 91 28 = some (.ireturn, 1)) (by decide +kernel) h
    · have h := h.2 g9
      refine Fr.ildn (by decide +kernel : zi 91 22 = some (.iload_n 1, 1)) rfl ?_
      refine Fr.ildn (by decide +kernel : zi 91 23 = some (.iload_n 2, 1)) rfl ?_
      refine Fr.if2 (q := 29) (by decide +kernel : zi 91 24 = some (.if_icmp .ne 5, 3)) (by decide +kernel) (fun g9 => ?_) (fun g9 => ?_)
      · have h := h.1 g9
        refine Fr.ildn (by decide +kernel : zi 91 29 = some (.iload_n 3, 1)) rfl ?_
        refine Fr.if0 (q := 41) (by decide +kernel : zi 91 30 = some (.ifCond .eq 11, 3)) (by decide +kernel) (fun g9 => ?_) (fun g9 => ?_)
        · have h := h.1 g9
          exact h
        · have h := h.2 g9
          refine Fr.ildn (by decide +kernel : zi 91 33 = some (.iload_n 3, 1)) rfl ?_
          refine Fr.iconst (by decide +kernel : zi 91 34 = some (.iconst 1, 1)) (by decide) ?_
          refine Fr.if2 (q := 41) (by decide +kernel : zi 91 35 = some (.if_icmp .eq 6, 3)) (by decide +kernel) (fun g9 => ?_) (fun g9 => ?_)
          · have h := h.1 g9
            exact h
          · have h := h.2 g9
            refine Fr.bipush (by decide +kernel : zi 91 38 = some (.bipush (-2), 2)) (by decide) ?_
            exact Fr.retI (by decide +kernel : zi 91 40 = some (.ireturn, 1)) (by decide +kernel) h
      · have h := h.2 g9
        refine Fr.iconst (by decide +kernel : zi 91 27 = some (.iconst (-1), 1)) (by decide) ?_
        exact Fr.retI (by decide +kernel : zi 91 28 = some (.ireturn, 1)) (by decide +kernel) h
theorem e91 {xs : Nat → Int} {L : Nat} {d : Nat} {v1 : Int} {v2 : Int} {v3 : Int} {s : Pl} {Q : Option AV → Pl → Prop} (hd : 1 ≤ d) (k : Fr xs L T0 106 (d - 1) 91 0 [some (rf 1), some (it v1), some (it v2), some (it v3)] [] s Q) : Ev xs L T0 106 d 91 [rf 1, it v1, it v2, it v3] s Q := Ev.of (by decide) _ rfl hd k
theorem f91_41 {xs : Nat → Int} {L : Nat} {d : Nat} {v1 : Int} {v2 : Int} {v3 : Int} {s : Pl} {P : Int → Pl → Prop} (h : Ev xs L T0 106 d 5 [rf 2, it v1, it v2, it v3] (zup s 0 9 0) (qi fun r2 s1 => P r2 s1)) : Fr xs L T0 106 d 91 41 [some (rf 1), some (it v1), some (it v2), some (it v3)] [] s (qi P) := by
  refine Fr.aldn (c := 1) (by decide +kernel : zi 91 41 = some (.aload_n 0, 1)) rfl ⟨by omega, by omega⟩ ?_
  refine Fr.iconst (by decide +kernel : zi 91 42 = some (.iconst 0, 1)) (by decide) ?_
  refine Fr.pZ (c := 0) (ci := 7) (k := 9) 9 (by decide +kernel : zi 91 43 = some (.putfield 98, 3)) (by decide +kernel) (by decide +kernel) (by decide) (by decide +kernel) (by decide) rfl ?_
  refine Fr.aldn (c := 1) (by decide +kernel : zi 91 46 = some (.aload_n 0, 1)) rfl ⟨by omega, by omega⟩ ?_
  refine Fr.gR (c := 0) (c2 := 2) (ci := 7) (k := 0) 0 (by decide +kernel : zi 91 47 = some (.getfield 10, 3)) (by decide +kernel) (by decide +kernel) (by decide +kernel) (by decide) rfl (fun q => q (0, 0, 2) (by decide +kernel)) ?_
  refine Fr.ildn (by decide +kernel : zi 91 50 = some (.iload_n 1, 1)) rfl ?_
  refine Fr.ildn (by decide +kernel : zi 91 51 = some (.iload_n 2, 1)) rfl ?_
  refine Fr.ildn (by decide +kernel : zi 91 52 = some (.iload_n 3, 1)) rfl ?_
  refine Fr.callI (y2 := 5) (na := 4) (as := [rf 2, it v1, it v2, it v3]) (rest := []) (by decide +kernel : zi 91 53 = some (.invokevirtual 155, 3)) rfl (by decide +kernel) (by decide +kernel) rfl rfl (zok_V rfl (by decide) (by decide +kernel) (by decide +kernel) (zrecv_c (c := 1) (by decide) (by decide +kernel)) rfl (Nat.le_of_ble_eq_true rfl)) h (fun r2 s1 h => ?_)
  exact Fr.retI (by decide +kernel : zi 91 56 = some (.ireturn, 1)) (by decide +kernel) h
-- 92 X7_told
theorem f92_0 {xs : Nat → Int} {L : Nat} {d : Nat} {v1 : Int} {v2 : Int} {s : Pl} {P : Int → Pl → Prop} (h : Ev xs L T0 106 d 2 [rf 2, it v1] s (qi fun r2 s1 => ((¬ r2 = 0 → ((v2 < 0 ∨ 6 < v2 → P (-7) s1) ∧ (v2 = 0 → (0 ≤ v1 ∧ v1 < 6) ∧ P (s1 3 v1) s1) ∧ (v2 = 1 → (0 ≤ v1 ∧ v1 < 6) ∧ P (s1 2 v1) s1) ∧ (v2 = 2 → (0 ≤ v1 ∧ v1 < 6) ∧ P (s1 4 v1) s1) ∧ (v2 = 3 → (0 ≤ v1 ∧ v1 < 6) ∧ P (s1 5 v1) s1) ∧ (v2 = 4 → (0 ≤ v1 ∧ v1 < 6) ∧ P (s1 6 v1) s1) ∧ (v2 = 5 → (0 ≤ v1 ∧ v1 < 6) ∧ P (s1 7 v1) s1) ∧ (v2 = 6 → (0 ≤ v1 ∧ v1 < 6) ∧ P (s1 8 v1) s1))) ∧ (¬ (¬ r2 = 0) → P (-5) s1)))) : Fr xs L T0 106 d 92 0 [some (rf 1), some (it v1), some (it v2)] [] s (qi P) := by
  refine Fr.aldn (c := 1) (by decide +kernel : zi 92 0 = some (.aload_n 0, 1)) rfl ⟨by omega, by omega⟩ ?_
  refine Fr.gR (c := 0) (c2 := 2) (ci := 7) (k := 0) 0 (by decide +kernel : zi 92 1 = some (.getfield 10, 3)) (by decide +kernel) (by decide +kernel) (by decide +kernel) (by decide) rfl (fun q => q (0, 0, 2) (by decide +kernel)) ?_
  refine Fr.ildn (by decide +kernel : zi 92 4 = some (.iload_n 1, 1)) rfl ?_
  refine Fr.callI (y2 := 2) (na := 2) (as := [rf 2, it v1]) (rest := []) (by decide +kernel : zi 92 5 = some (.invokevirtual 137, 3)) rfl (by decide +kernel) (by decide +kernel) rfl rfl (zok_V rfl (by decide) (by decide +kernel) (by decide +kernel) (zrecv_c (c := 1) (by decide) (by decide +kernel)) rfl (Nat.le_of_ble_eq_true rfl)) h (fun r2 s1 h => ?_)
  refine Fr.if0 (q := 14) (by decide +kernel : zi 92 8 = some (.ifCond .ne 6, 3)) (by decide +kernel) (fun g9 => ?_) (fun g9 => ?_)
  · have h := h.1 g9
    refine Fr.ildn (by decide +kernel : zi 92 14 = some (.iload_n 2, 1)) rfl ?_
    rcases (show (v2 < 0 ∨ 6 < v2) ∨ v2 = 0 ∨ v2 = 1 ∨ v2 = 2 ∨ v2 = 3 ∨ v2 = 4 ∨ v2 = 5 ∨ v2 = 6 by omega) with g9 | g9 | g9 | g9 | g9 | g9 | g9 | g9
    · have h := h.1 g9
      refine Fr.tsd (q := 126) (by decide +kernel : zi 92 15 = some (.tableswitch 111 0 6 #[41, 51, 61, 71, 81, 91, 101], 41)) g9 (by decide +kernel) ?_
      refine Fr.bipush (by decide +kernel : zi 92 126 = some (.bipush (-7), 2)) (by decide) ?_
      exact Fr.retI (by decide +kernel : zi 92 128 = some (.ireturn, 1)) (by decide +kernel) h
    · have h := h.2.1 g9
      refine Fr.tsw (off := 41) (q := 56) (by decide +kernel : zi 92 15 = some (.tableswitch 111 0 6 #[41, 51, 61, 71, 81, 91, 101], 41)) (by omega) (by rw [g9]; decide +kernel) (by decide +kernel) ?_
      refine Fr.aldn (c := 1) (by decide +kernel : zi 92 56 = some (.aload_n 0, 1)) rfl ⟨by omega, by omega⟩ ?_
      refine Fr.gR (c := 0) (c2 := 2) (ci := 7) (k := 0) 0 (by decide +kernel : zi 92 57 = some (.getfield 10, 3)) (by decide +kernel) (by decide +kernel) (by decide +kernel) (by decide) rfl (fun q => q (0, 0, 2) (by decide +kernel)) ?_
      refine Fr.gR (c := 1) (c2 := 4) (ci := 0) (k := 4) 4 (by decide +kernel : zi 92 60 = some (.getfield 158, 3)) (by decide +kernel) (by decide +kernel) (by decide +kernel) (by decide) rfl (fun q => q (1, 4, 4) (by decide +kernel)) ?_
      refine Fr.ildn (by decide +kernel : zi 92 63 = some (.iload_n 1, 1)) rfl ?_
      obtain ⟨⟨g0, g1⟩, h⟩ := h
      refine Fr.iald (c := 3) (N := 6) (by decide +kernel : zi 92 64 = some (.iaload, 1)) (by decide +kernel) (by decide) g0 g1 ?_
      exact Fr.retI (by decide +kernel : zi 92 65 = some (.ireturn, 1)) (by decide +kernel) h
    · have h := h.2.2.1 g9
      refine Fr.tsw (off := 51) (q := 66) (by decide +kernel : zi 92 15 = some (.tableswitch 111 0 6 #[41, 51, 61, 71, 81, 91, 101], 41)) (by omega) (by rw [g9]; decide +kernel) (by decide +kernel) ?_
      refine Fr.aldn (c := 1) (by decide +kernel : zi 92 66 = some (.aload_n 0, 1)) rfl ⟨by omega, by omega⟩ ?_
      refine Fr.gR (c := 0) (c2 := 2) (ci := 7) (k := 0) 0 (by decide +kernel : zi 92 67 = some (.getfield 10, 3)) (by decide +kernel) (by decide +kernel) (by decide +kernel) (by decide) rfl (fun q => q (0, 0, 2) (by decide +kernel)) ?_
      refine Fr.gR (c := 1) (c2 := 3) (ci := 0) (k := 3) 3 (by decide +kernel : zi 92 70 = some (.getfield 162, 3)) (by decide +kernel) (by decide +kernel) (by decide +kernel) (by decide) rfl (fun q => q (1, 3, 3) (by decide +kernel)) ?_
      refine Fr.ildn (by decide +kernel : zi 92 73 = some (.iload_n 1, 1)) rfl ?_
      obtain ⟨⟨g0, g1⟩, h⟩ := h
      refine Fr.iald (c := 2) (N := 6) (by decide +kernel : zi 92 74 = some (.iaload, 1)) (by decide +kernel) (by decide) g0 g1 ?_
      exact Fr.retI (by decide +kernel : zi 92 75 = some (.ireturn, 1)) (by decide +kernel) h
    · have h := h.2.2.2.1 g9
      refine Fr.tsw (off := 61) (q := 76) (by decide +kernel : zi 92 15 = some (.tableswitch 111 0 6 #[41, 51, 61, 71, 81, 91, 101], 41)) (by omega) (by rw [g9]; decide +kernel) (by decide +kernel) ?_
      refine Fr.aldn (c := 1) (by decide +kernel : zi 92 76 = some (.aload_n 0, 1)) rfl ⟨by omega, by omega⟩ ?_
      refine Fr.gR (c := 0) (c2 := 2) (ci := 7) (k := 0) 0 (by decide +kernel : zi 92 77 = some (.getfield 10, 3)) (by decide +kernel) (by decide +kernel) (by decide +kernel) (by decide) rfl (fun q => q (0, 0, 2) (by decide +kernel)) ?_
      refine Fr.gR (c := 1) (c2 := 5) (ci := 0) (k := 5) 5 (by decide +kernel : zi 92 80 = some (.getfield 165, 3)) (by decide +kernel) (by decide +kernel) (by decide +kernel) (by decide) rfl (fun q => q (1, 5, 5) (by decide +kernel)) ?_
      refine Fr.ildn (by decide +kernel : zi 92 83 = some (.iload_n 1, 1)) rfl ?_
      obtain ⟨⟨g0, g1⟩, h⟩ := h
      refine Fr.iald (c := 4) (N := 6) (by decide +kernel : zi 92 84 = some (.iaload, 1)) (by decide +kernel) (by decide) g0 g1 ?_
      exact Fr.retI (by decide +kernel : zi 92 85 = some (.ireturn, 1)) (by decide +kernel) h
    · have h := h.2.2.2.2.1 g9
      refine Fr.tsw (off := 71) (q := 86) (by decide +kernel : zi 92 15 = some (.tableswitch 111 0 6 #[41, 51, 61, 71, 81, 91, 101], 41)) (by omega) (by rw [g9]; decide +kernel) (by decide +kernel) ?_
      refine Fr.aldn (c := 1) (by decide +kernel : zi 92 86 = some (.aload_n 0, 1)) rfl ⟨by omega, by omega⟩ ?_
      refine Fr.gR (c := 0) (c2 := 2) (ci := 7) (k := 0) 0 (by decide +kernel : zi 92 87 = some (.getfield 10, 3)) (by decide +kernel) (by decide +kernel) (by decide +kernel) (by decide) rfl (fun q => q (0, 0, 2) (by decide +kernel)) ?_
      refine Fr.gR (c := 1) (c2 := 6) (ci := 0) (k := 6) 6 (by decide +kernel : zi 92 90 = some (.getfield 168, 3)) (by decide +kernel) (by decide +kernel) (by decide +kernel) (by decide) rfl (fun q => q (1, 6, 6) (by decide +kernel)) ?_
      refine Fr.ildn (by decide +kernel : zi 92 93 = some (.iload_n 1, 1)) rfl ?_
      obtain ⟨⟨g0, g1⟩, h⟩ := h
      refine Fr.iald (c := 5) (N := 6) (by decide +kernel : zi 92 94 = some (.iaload, 1)) (by decide +kernel) (by decide) g0 g1 ?_
      exact Fr.retI (by decide +kernel : zi 92 95 = some (.ireturn, 1)) (by decide +kernel) h
    · have h := h.2.2.2.2.2.1 g9
      refine Fr.tsw (off := 81) (q := 96) (by decide +kernel : zi 92 15 = some (.tableswitch 111 0 6 #[41, 51, 61, 71, 81, 91, 101], 41)) (by omega) (by rw [g9]; decide +kernel) (by decide +kernel) ?_
      refine Fr.aldn (c := 1) (by decide +kernel : zi 92 96 = some (.aload_n 0, 1)) rfl ⟨by omega, by omega⟩ ?_
      refine Fr.gR (c := 0) (c2 := 2) (ci := 7) (k := 0) 0 (by decide +kernel : zi 92 97 = some (.getfield 10, 3)) (by decide +kernel) (by decide +kernel) (by decide +kernel) (by decide) rfl (fun q => q (0, 0, 2) (by decide +kernel)) ?_
      refine Fr.gR (c := 1) (c2 := 7) (ci := 0) (k := 7) 7 (by decide +kernel : zi 92 100 = some (.getfield 171, 3)) (by decide +kernel) (by decide +kernel) (by decide +kernel) (by decide) rfl (fun q => q (1, 7, 7) (by decide +kernel)) ?_
      refine Fr.ildn (by decide +kernel : zi 92 103 = some (.iload_n 1, 1)) rfl ?_
      obtain ⟨⟨g0, g1⟩, h⟩ := h
      refine Fr.iald (c := 6) (N := 6) (by decide +kernel : zi 92 104 = some (.iaload, 1)) (by decide +kernel) (by decide) g0 g1 ?_
      exact Fr.retI (by decide +kernel : zi 92 105 = some (.ireturn, 1)) (by decide +kernel) h
    · have h := h.2.2.2.2.2.2.1 g9
      refine Fr.tsw (off := 91) (q := 106) (by decide +kernel : zi 92 15 = some (.tableswitch 111 0 6 #[41, 51, 61, 71, 81, 91, 101], 41)) (by omega) (by rw [g9]; decide +kernel) (by decide +kernel) ?_
      refine Fr.aldn (c := 1) (by decide +kernel : zi 92 106 = some (.aload_n 0, 1)) rfl ⟨by omega, by omega⟩ ?_
      refine Fr.gR (c := 0) (c2 := 2) (ci := 7) (k := 0) 0 (by decide +kernel : zi 92 107 = some (.getfield 10, 3)) (by decide +kernel) (by decide +kernel) (by decide +kernel) (by decide) rfl (fun q => q (0, 0, 2) (by decide +kernel)) ?_
      refine Fr.gR (c := 1) (c2 := 8) (ci := 0) (k := 8) 8 (by decide +kernel : zi 92 110 = some (.getfield 174, 3)) (by decide +kernel) (by decide +kernel) (by decide +kernel) (by decide) rfl (fun q => q (1, 8, 8) (by decide +kernel)) ?_
      refine Fr.ildn (by decide +kernel : zi 92 113 = some (.iload_n 1, 1)) rfl ?_
      obtain ⟨⟨g0, g1⟩, h⟩ := h
      refine Fr.iald (c := 7) (N := 6) (by decide +kernel : zi 92 114 = some (.iaload, 1)) (by decide +kernel) (by decide) g0 g1 ?_
      exact Fr.retI (by decide +kernel : zi 92 115 = some (.ireturn, 1)) (by decide +kernel) h
    · have h := h.2.2.2.2.2.2.2 g9
      refine Fr.tsw (off := 101) (q := 116) (by decide +kernel : zi 92 15 = some (.tableswitch 111 0 6 #[41, 51, 61, 71, 81, 91, 101], 41)) (by omega) (by rw [g9]; decide +kernel) (by decide +kernel) ?_
      refine Fr.aldn (c := 1) (by decide +kernel : zi 92 116 = some (.aload_n 0, 1)) rfl ⟨by omega, by omega⟩ ?_
      refine Fr.gR (c := 0) (c2 := 2) (ci := 7) (k := 0) 0 (by decide +kernel : zi 92 117 = some (.getfield 10, 3)) (by decide +kernel) (by decide +kernel) (by decide +kernel) (by decide) rfl (fun q => q (0, 0, 2) (by decide +kernel)) ?_
      refine Fr.gR (c := 1) (c2 := 9) (ci := 0) (k := 9) 9 (by decide +kernel : zi 92 120 = some (.getfield 177, 3)) (by decide +kernel) (by decide +kernel) (by decide +kernel) (by decide) rfl (fun q => q (1, 9, 9) (by decide +kernel)) ?_
      refine Fr.ildn (by decide +kernel : zi 92 123 = some (.iload_n 1, 1)) rfl ?_
      obtain ⟨⟨g0, g1⟩, h⟩ := h
      refine Fr.iald (c := 8) (N := 6) (by decide +kernel : zi 92 124 = some (.iaload, 1)) (by decide +kernel) (by decide) g0 g1 ?_
      exact Fr.retI (by decide +kernel : zi 92 125 = some (.ireturn, 1)) (by decide +kernel) h
  · have h := h.2 g9
    refine Fr.bipush (by decide +kernel : zi 92 11 = some (.bipush (-5), 2)) (by decide) ?_
    exact Fr.retI (by decide +kernel : zi 92 13 = some (.ireturn, 1)) (by decide +kernel) h
theorem e92 {xs : Nat → Int} {L : Nat} {d : Nat} {v1 : Int} {v2 : Int} {s : Pl} {Q : Option AV → Pl → Prop} (hd : 1 ≤ d) (k : Fr xs L T0 106 (d - 1) 92 0 [some (rf 1), some (it v1), some (it v2)] [] s Q) : Ev xs L T0 106 d 92 [rf 1, it v1, it v2] s Q := Ev.of (by decide) _ rfl hd k
-- 93 X7_put
theorem f93_0 {xs : Nat → Int} {L : Nat} {d : Nat} {v1 : Int} {v2 : Int} {s : Pl} {P : Int → Pl → Prop} (h : Ev xs L T0 106 d 2 [rf 2, it v1] s (qi fun r2 s1 => ((¬ r2 = 0 → ((v2 < 0 → P (-7) s1) ∧ (¬ (v2 < 0) → ((v2 ≤ 4 → Ev xs L T0 106 d 6 [rf 2, it 4] s1 (qi fun r4 s3 => ((¬ v2 = 4 → Fr xs L T0 106 d 93 57 [some (rf 1), some (it v1), some (it v2), some (it (zand r4 (zxor (zshl 1 v1) (-1)))), none] [] s3 (qi P)) ∧ (¬ (¬ v2 = 4) → Ev xs L T0 106 d 228 [it (zand r4 (zxor (zshl 1 v1) (-1)))] s3 (qi fun r6 s5 => ((r6 < 3 → Fr xs L T0 106 d 93 57 [some (rf 1), some (it v1), some (it v2), some (it (zand r4 (zxor (zshl 1 v1) (-1)))), none] [] s5 (qi P)) ∧ (¬ (r6 < 3) → P (-3) s5))))))) ∧ (¬ (v2 ≤ 4) → P (-7) s1))))) ∧ (¬ (¬ r2 = 0) → P (-5) s1)))) : Fr xs L T0 106 d 93 0 [some (rf 1), some (it v1), some (it v2), none, none] [] s (qi P) := by
  refine Fr.aldn (c := 1) (by decide +kernel : zi 93 0 = some (.aload_n 0, 1)) rfl ⟨by omega, by omega⟩ ?_
  refine Fr.gR (c := 0) (c2 := 2) (ci := 7) (k := 0) 0 (by decide +kernel : zi 93 1 = some (.getfield 10, 3)) (by decide +kernel) (by decide +kernel) (by decide +kernel) (by decide) rfl (fun q => q (0, 0, 2) (by decide +kernel)) ?_
  refine Fr.ildn (by decide +kernel : zi 93 4 = some (.iload_n 1, 1)) rfl ?_
  refine Fr.callI (y2 := 2) (na := 2) (as := [rf 2, it v1]) (rest := []) (by decide +kernel : zi 93 5 = some (.invokevirtual 137, 3)) rfl (by decide +kernel) (by decide +kernel) rfl rfl (zok_V rfl (by decide) (by decide +kernel) (by decide +kernel) (zrecv_c (c := 1) (by decide) (by decide +kernel)) rfl (Nat.le_of_ble_eq_true rfl)) h (fun r2 s1 h => ?_)
  refine Fr.if0 (q := 14) (by decide +kernel : zi 93 8 = some (.ifCond .ne 6, 3)) (by decide +kernel) (fun g9 => ?_) (fun g9 => ?_)
  · have h := h.1 g9
    refine Fr.ildn (by decide +kernel : zi 93 14 = some (.iload_n 2, 1)) rfl ?_
    refine Fr.if0 (q := 23) (by decide +kernel : zi 93 15 = some (.ifCond .lt 8, 3)) (by decide +kernel) (fun g9 => ?_) (fun g9 => ?_)
    · have h := h.1 g9
      refine Fr.bipush (by decide +kernel : zi 93 23 = some (.bipush (-7), 2)) (by decide) ?_
      exact Fr.retI (by decide +kernel : zi 93 25 = some (.ireturn, 1)) (by decide +kernel) h
    · have h := h.2 g9
      refine Fr.ildn (by decide +kernel : zi 93 18 = some (.iload_n 2, 1)) rfl ?_
      refine Fr.iconst (by decide +kernel : zi 93 19 = some (.iconst 4, 1)) (by decide) ?_
      refine Fr.if2 (q := 26) (by decide +kernel : zi 93 20 = some (.if_icmp .le 6, 3)) (by decide +kernel) (fun g9 => ?_) (fun g9 => ?_)
      · have h := h.1 g9
        refine Fr.aldn (c := 1) (by decide +kernel : zi 93 26 = some (.aload_n 0, 1)) rfl ⟨by omega, by omega⟩ ?_
        refine Fr.gR (c := 0) (c2 := 2) (ci := 7) (k := 0) 0 (by decide +kernel : zi 93 27 = some (.getfield 10, 3)) (by decide +kernel) (by decide +kernel) (by decide +kernel) (by decide) rfl (fun q => q (0, 0, 2) (by decide +kernel)) ?_
        refine Fr.iconst (by decide +kernel : zi 93 30 = some (.iconst 4, 1)) (by decide) ?_
        refine Fr.callI (y2 := 6) (na := 2) (as := [rf 2, it 4]) (rest := []) (by decide +kernel : zi 93 31 = some (.invokevirtual 112, 3)) rfl (by decide +kernel) (by decide +kernel) rfl rfl (zok_V rfl (by decide) (by decide +kernel) (by decide +kernel) (zrecv_c (c := 1) (by decide) (by decide +kernel)) rfl (Nat.le_of_ble_eq_true rfl)) h (fun r4 s3 h => ?_)
        refine Fr.iconst (by decide +kernel : zi 93 34 = some (.iconst 1, 1)) (by decide) ?_
        refine Fr.ildn (by decide +kernel : zi 93 35 = some (.iload_n 1, 1)) rfl ?_
        refine Fr.ishl (by decide +kernel : zi 93 36 = some (.ishl, 1)) ?_
        refine Fr.iconst (by decide +kernel : zi 93 37 = some (.iconst (-1), 1)) (by decide) ?_
        refine Fr.ixor (by decide +kernel : zi 93 38 = some (.ixor, 1)) ?_
        refine Fr.iand (by decide +kernel : zi 93 39 = some (.iand, 1)) ?_
        refine Fr.istn (lv2 := [some (rf 1), some (it v1), some (it v2), some (it (zand r4 (zxor (zshl 1 v1) (-1)))), none]) (by decide +kernel : zi 93 40 = some (.istore_n 3, 1)) (Nat.le_of_ble_eq_true rfl) rfl ?_
        refine Fr.ildn (by decide +kernel : zi 93 41 = some (.iload_n 2, 1)) rfl ?_
        refine Fr.iconst (by decide +kernel : zi 93 42 = some (.iconst 4, 1)) (by decide) ?_
        refine Fr.if2 (q := 57) (by decide +kernel : zi 93 43 = some (.if_icmp .ne 14, 3)) (by decide +kernel) (fun g9 => ?_) (fun g9 => ?_)
        · have h := h.1 g9
          exact h
        · have h := h.2 g9
          refine Fr.ildn (by decide +kernel : zi 93 46 = some (.iload_n 3, 1)) rfl ?_
          refine Fr.callI (y2 := 228) (na := 1) (as := [it (zand r4 (zxor (zshl 1 v1) (-1)))]) (rest := []) (by decide +kernel : zi 93 47 = some (.invokestatic 116, 3)) rfl (by decide +kernel) (by decide +kernel) rfl rfl (zok_S rfl (by decide) (by decide +kernel) rfl (Nat.le_of_ble_eq_true rfl)) h (fun r6 s5 h => ?_)
          refine Fr.iconst (by decide +kernel : zi 93 50 = some (.iconst 3, 1)) (by decide) ?_
          refine Fr.if2 (q := 57) (by decide +kernel : zi 93 51 = some (.if_icmp .lt 6, 3)) (by decide +kernel) (fun g9 => ?_) (fun g9 => ?_)
          · have h := h.1 g9
            exact h
          · have h := h.2 g9
            refine Fr.bipush (by decide +kernel : zi 93 54 = some (.bipush (-3), 2)) (by decide) ?_
            exact Fr.retI (by decide +kernel : zi 93 56 = some (.ireturn, 1)) (by decide +kernel) h
      · have h := h.2 g9
        refine Fr.bipush (by decide +kernel : zi 93 23 = some (.bipush (-7), 2)) (by decide) ?_
        exact Fr.retI (by decide +kernel : zi 93 25 = some (.ireturn, 1)) (by decide +kernel) h
  · have h := h.2 g9
    refine Fr.bipush (by decide +kernel : zi 93 11 = some (.bipush (-5), 2)) (by decide) ?_
    exact Fr.retI (by decide +kernel : zi 93 13 = some (.ireturn, 1)) (by decide +kernel) h
theorem e93 {xs : Nat → Int} {L : Nat} {d : Nat} {v1 : Int} {v2 : Int} {s : Pl} {Q : Option AV → Pl → Prop} (hd : 1 ≤ d) (k : Fr xs L T0 106 (d - 1) 93 0 [some (rf 1), some (it v1), some (it v2), none, none] [] s Q) : Ev xs L T0 106 d 93 [rf 1, it v1, it v2] s Q := Ev.of (by decide) _ rfl hd k
theorem f93_57 {xs : Nat → Int} {L : Nat} {d : Nat} {v1 : Int} {v2 : Int} {v3 : Int} {s : Pl} {P : Int → Pl → Prop} (h : (0 ≤ v1 ∧ v1 < 6) ∧ (0 ≤ v1 ∧ v1 < 6) ∧ P ((zup s 0 9 0) 2 v1) (zup (zup s 0 9 0) 2 v1 v2)) : Fr xs L T0 106 d 93 57 [some (rf 1), some (it v1), some (it v2), some (it v3), none] [] s (qi P) := by
  refine Fr.aldn (c := 1) (by decide +kernel : zi 93 57 = some (.aload_n 0, 1)) rfl ⟨by omega, by omega⟩ ?_
  refine Fr.iconst (by decide +kernel : zi 93 58 = some (.iconst 0, 1)) (by decide) ?_
  refine Fr.pZ (c := 0) (ci := 7) (k := 9) 9 (by decide +kernel : zi 93 59 = some (.putfield 98, 3)) (by decide +kernel) (by decide +kernel) (by decide) (by decide +kernel) (by decide) rfl ?_
  refine Fr.aldn (c := 1) (by decide +kernel : zi 93 62 = some (.aload_n 0, 1)) rfl ⟨by omega, by omega⟩ ?_
  refine Fr.gR (c := 0) (c2 := 2) (ci := 7) (k := 0) 0 (by decide +kernel : zi 93 63 = some (.getfield 10, 3)) (by decide +kernel) (by decide +kernel) (by decide +kernel) (by decide) rfl (fun q => q (0, 0, 2) (by decide +kernel)) ?_
  refine Fr.gR (c := 1) (c2 := 3) (ci := 0) (k := 3) 3 (by decide +kernel : zi 93 66 = some (.getfield 162, 3)) (by decide +kernel) (by decide +kernel) (by decide +kernel) (by decide) rfl (fun q => q (1, 3, 3) (by decide +kernel)) ?_
  refine Fr.ildn (by decide +kernel : zi 93 69 = some (.iload_n 1, 1)) rfl ?_
  obtain ⟨⟨g0, g1⟩, h⟩ := h
  refine Fr.iald (c := 2) (N := 6) (by decide +kernel : zi 93 70 = some (.iaload, 1)) (by decide +kernel) (by decide) g0 g1 ?_
  refine Fr.ist (lv2 := [some (rf 1), some (it v1), some (it v2), some (it v3), some (it ((zup s 0 9 0) 2 v1))]) (by decide +kernel : zi 93 71 = some (.istore 4, 2)) (Nat.le_of_ble_eq_true rfl) rfl ?_
  refine Fr.aldn (c := 1) (by decide +kernel : zi 93 73 = some (.aload_n 0, 1)) rfl ⟨by omega, by omega⟩ ?_
  refine Fr.gR (c := 0) (c2 := 2) (ci := 7) (k := 0) 0 (by decide +kernel : zi 93 74 = some (.getfield 10, 3)) (by decide +kernel) (by decide +kernel) (by decide +kernel) (by decide) rfl (fun q => q (0, 0, 2) (by decide +kernel)) ?_
  refine Fr.gR (c := 1) (c2 := 3) (ci := 0) (k := 3) 3 (by decide +kernel : zi 93 77 = some (.getfield 162, 3)) (by decide +kernel) (by decide +kernel) (by decide +kernel) (by decide) rfl (fun q => q (1, 3, 3) (by decide +kernel)) ?_
  refine Fr.ildn (by decide +kernel : zi 93 80 = some (.iload_n 1, 1)) rfl ?_
  refine Fr.ildn (by decide +kernel : zi 93 81 = some (.iload_n 2, 1)) rfl ?_
  obtain ⟨⟨g0, g1⟩, h⟩ := h
  refine Fr.iast (c := 2) (N := 6) (by decide +kernel : zi 93 82 = some (.iastore, 1)) (by decide +kernel) (by decide) g0 g1 ?_
  refine Fr.ild (by decide +kernel : zi 93 83 = some (.iload 4, 2)) rfl ?_
  exact Fr.retI (by decide +kernel : zi 93 85 = some (.ireturn, 1)) (by decide +kernel) h
-- 94 X7_may
theorem f94_0 {xs : Nat → Int} {L : Nat} {d : Nat} {v1 : Int} {v2 : Int} {s : Pl} {P : Int → Pl → Prop} (h : Ev xs L T0 106 d 2 [rf 2, it v1] s (qi fun r2 s1 => ((r2 = 0 → P (-5) s1) ∧ (¬ (r2 = 0) → Ev xs L T0 106 d 2 [rf 2, it v2] s1 (qi fun r4 s3 => ((¬ r4 = 0 → Ev xs L T0 106 d 122 [rf 1] s3 (qr fun c9 s5 => ∃ tq6 : Nat, tq6 < 6 ∧ c9 = 21 + 4 * tq6 + 1 ∧ Ev xs L T0 106 d 34 [rf 58, rf (21 + 4 * tq6 + 1)] s5 (qv fun s7 => Ev xs L T0 106 d 8 [rf 2] s7 (qi fun r9 s8 => Ev xs L T0 106 d 42 [rf 58, it r9] s8 (qv fun s10 => Ev xs L T0 106 d 47 [rf 58, it v1, it v2] s10 (qi fun r12 s11 => ((r12 = 0 → P 0 s11) ∧ (¬ (r12 = 0) → P 1 s11)))))))) ∧ (¬ (¬ r4 = 0) → P (-5) s3))))))) : Fr xs L T0 106 d 94 0 [some (rf 1), some (it v1), some (it v2)] [] s (qi P) := by
  refine Fr.aldn (c := 1) (by decide +kernel : zi 94 0 = some (.aload_n 0, 1)) rfl ⟨by omega, by omega⟩ ?_
  refine Fr.gR (c := 0) (c2 := 2) (ci := 7) (k := 0) 0 (by decide +kernel : zi 94 1 = some (.getfield 10, 3)) (by decide +kernel) (by decide +kernel) (by decide +kernel) (by decide) rfl (fun q => q (0, 0, 2) (by decide +kernel)) ?_
  refine Fr.ildn (by decide +kernel : zi 94 4 = some (.iload_n 1, 1)) rfl ?_
  refine Fr.callI (y2 := 2) (na := 2) (as := [rf 2, it v1]) (rest := []) (by decide +kernel : zi 94 5 = some (.invokevirtual 137, 3)) rfl (by decide +kernel) (by decide +kernel) rfl rfl (zok_V rfl (by decide) (by decide +kernel) (by decide +kernel) (zrecv_c (c := 1) (by decide) (by decide +kernel)) rfl (Nat.le_of_ble_eq_true rfl)) h (fun r2 s1 h => ?_)
  refine Fr.if0 (q := 22) (by decide +kernel : zi 94 8 = some (.ifCond .eq 14, 3)) (by decide +kernel) (fun g9 => ?_) (fun g9 => ?_)
  · have h := h.1 g9
    refine Fr.bipush (by decide +kernel : zi 94 22 = some (.bipush (-5), 2)) (by decide) ?_
    exact Fr.retI (by decide +kernel : zi 94 24 = some (.ireturn, 1)) (by decide +kernel) h
  · have h := h.2 g9
    refine Fr.aldn (c := 1) (by decide +kernel : zi 94 11 = some (.aload_n 0, 1)) rfl ⟨by omega, by omega⟩ ?_
    refine Fr.gR (c := 0) (c2 := 2) (ci := 7) (k := 0) 0 (by decide +kernel : zi 94 12 = some (.getfield 10, 3)) (by decide +kernel) (by decide +kernel) (by decide +kernel) (by decide) rfl (fun q => q (0, 0, 2) (by decide +kernel)) ?_
    refine Fr.ildn (by decide +kernel : zi 94 15 = some (.iload_n 2, 1)) rfl ?_
    refine Fr.callI (y2 := 2) (na := 2) (as := [rf 2, it v2]) (rest := []) (by decide +kernel : zi 94 16 = some (.invokevirtual 137, 3)) rfl (by decide +kernel) (by decide +kernel) rfl rfl (zok_V rfl (by decide) (by decide +kernel) (by decide +kernel) (zrecv_c (c := 1) (by decide) (by decide +kernel)) rfl (Nat.le_of_ble_eq_true rfl)) h (fun r4 s3 h => ?_)
    refine Fr.if0 (q := 25) (by decide +kernel : zi 94 19 = some (.ifCond .ne 6, 3)) (by decide +kernel) (fun g9 => ?_) (fun g9 => ?_)
    · have h := h.1 g9
      refine Fr.aldn (c := 1) (by decide +kernel : zi 94 25 = some (.aload_n 0, 1)) rfl ⟨by omega, by omega⟩ ?_
      refine Fr.gR (c := 0) (c2 := 58) (ci := 7) (k := 6) 6 (by decide +kernel : zi 94 26 = some (.getfield 74, 3)) (by decide +kernel) (by decide +kernel) (by decide +kernel) (by decide) rfl (fun q => q (0, 6, 58) (by decide +kernel)) ?_
      refine Fr.aldn (c := 1) (by decide +kernel : zi 94 29 = some (.aload_n 0, 1)) rfl ⟨by omega, by omega⟩ ?_
      refine Fr.callR (y2 := 122) (na := 1) (as := [rf 1]) (rest := [rf 58]) (by decide +kernel : zi 94 30 = some (.invokevirtual 130, 3)) rfl (by decide +kernel) (by decide +kernel) rfl rfl (zok_V rfl (by decide) (by decide +kernel) (by decide +kernel) (zrecv_c (c := 0) (by decide) (by decide +kernel)) rfl (Nat.le_of_ble_eq_true rfl)) h (fun c9 s5 h => ?_)
      obtain ⟨tq6, htq6, g0, h⟩ := h
      subst g0
      refine Fr.callV (y2 := 34) (na := 2) (as := [rf 58, rf (21 + 4 * tq6 + 1)]) (rest := []) (by decide +kernel : zi 94 33 = some (.invokevirtual 134, 3)) rfl (by decide +kernel) (by decide +kernel) rfl rfl (zok_V rfl (by decide) (by decide +kernel) (by decide +kernel) (zrecv_c (c := 57) (by decide) (by decide +kernel)) rfl (Nat.le_of_ble_eq_true rfl)) h (fun s7 h => ?_)
      refine Fr.aldn (c := 1) (by decide +kernel : zi 94 36 = some (.aload_n 0, 1)) rfl ⟨by omega, by omega⟩ ?_
      refine Fr.gR (c := 0) (c2 := 58) (ci := 7) (k := 6) 6 (by decide +kernel : zi 94 37 = some (.getfield 74, 3)) (by decide +kernel) (by decide +kernel) (by decide +kernel) (by decide) rfl (fun q => q (0, 6, 58) (by decide +kernel)) ?_
      refine Fr.aldn (c := 1) (by decide +kernel : zi 94 40 = some (.aload_n 0, 1)) rfl ⟨by omega, by omega⟩ ?_
      refine Fr.gR (c := 0) (c2 := 2) (ci := 7) (k := 0) 0 (by decide +kernel : zi 94 41 = some (.getfield 10, 3)) (by decide +kernel) (by decide +kernel) (by decide +kernel) (by decide) rfl (fun q => q (0, 0, 2) (by decide +kernel)) ?_
      refine Fr.callI (y2 := 8) (na := 1) (as := [rf 2]) (rest := [rf 58]) (by decide +kernel : zi 94 44 = some (.invokevirtual 180, 3)) rfl (by decide +kernel) (by decide +kernel) rfl rfl (zok_V rfl (by decide) (by decide +kernel) (by decide +kernel) (zrecv_c (c := 1) (by decide) (by decide +kernel)) rfl (Nat.le_of_ble_eq_true rfl)) h (fun r9 s8 h => ?_)
      refine Fr.callV (y2 := 42) (na := 2) (as := [rf 58, it r9]) (rest := []) (by decide +kernel : zi 94 47 = some (.invokevirtual 183, 3)) rfl (by decide +kernel) (by decide +kernel) rfl rfl (zok_V rfl (by decide) (by decide +kernel) (by decide +kernel) (zrecv_c (c := 57) (by decide) (by decide +kernel)) rfl (Nat.le_of_ble_eq_true rfl)) h (fun s10 h => ?_)
      refine Fr.aldn (c := 1) (by decide +kernel : zi 94 50 = some (.aload_n 0, 1)) rfl ⟨by omega, by omega⟩ ?_
      refine Fr.gR (c := 0) (c2 := 58) (ci := 7) (k := 6) 6 (by decide +kernel : zi 94 51 = some (.getfield 74, 3)) (by decide +kernel) (by decide +kernel) (by decide +kernel) (by decide) rfl (fun q => q (0, 6, 58) (by decide +kernel)) ?_
      refine Fr.ildn (by decide +kernel : zi 94 54 = some (.iload_n 1, 1)) rfl ?_
      refine Fr.ildn (by decide +kernel : zi 94 55 = some (.iload_n 2, 1)) rfl ?_
      refine Fr.callI (y2 := 47) (na := 3) (as := [rf 58, it v1, it v2]) (rest := []) (by decide +kernel : zi 94 56 = some (.invokevirtual 186, 3)) rfl (by decide +kernel) (by decide +kernel) rfl rfl (zok_V rfl (by decide) (by decide +kernel) (by decide +kernel) (zrecv_c (c := 57) (by decide) (by decide +kernel)) rfl (Nat.le_of_ble_eq_true rfl)) h (fun r12 s11 h => ?_)
      refine Fr.if0 (q := 66) (by decide +kernel : zi 94 59 = some (.ifCond .eq 7, 3)) (by decide +kernel) (fun g9 => ?_) (fun g9 => ?_)
      · have h := h.1 g9
        refine Fr.iconst (by decide +kernel : zi 94 66 = some (.iconst 0, 1)) (by decide) ?_
        exact Fr.retI (by decide +kernel : zi 94 67 = some (.ireturn, 1)) (by decide +kernel) h
      · have h := h.2 g9
        refine Fr.iconst (by decide +kernel : zi 94 62 = some (.iconst 1, 1)) (by decide) ?_
        refine Fr.goto (q := 67) (by decide +kernel : zi 94 63 = some (.goto 4, 3)) (by decide +kernel) ?_
        exact Fr.retI (by decide +kernel : zi 94 67 = some (.ireturn, 1)) (by decide +kernel) h
    · have h := h.2 g9
      refine Fr.bipush (by decide +kernel : zi 94 22 = some (.bipush (-5), 2)) (by decide) ?_
      exact Fr.retI (by decide +kernel : zi 94 24 = some (.ireturn, 1)) (by decide +kernel) h
theorem e94 {xs : Nat → Int} {L : Nat} {d : Nat} {v1 : Int} {v2 : Int} {s : Pl} {Q : Option AV → Pl → Prop} (hd : 1 ≤ d) (k : Fr xs L T0 106 (d - 1) 94 0 [some (rf 1), some (it v1), some (it v2)] [] s Q) : Ev xs L T0 106 d 94 [rf 1, it v1, it v2] s Q := Ev.of (by decide) _ rfl hd k
-- 95 X7_alone
theorem f95_0 {xs : Nat → Int} {L : Nat} {d : Nat}  {s : Pl} {P : Int → Pl → Prop} (h : Ev xs L T0 106 d 122 [rf 1] s (qr fun c9 s1 => ∃ tq2 : Nat, tq2 < 6 ∧ c9 = 21 + 4 * tq2 + 1 ∧ Ev xs L T0 106 d 34 [rf 58, rf (21 + 4 * tq2 + 1)] s1 (qv fun s3 => Fr xs L T0 106 d 95 15 [some (rf 1), some (it 0), some (it 0)] [] s3 (qi P)))) : Fr xs L T0 106 d 95 0 [some (rf 1), none, none] [] s (qi P) := by
  refine Fr.aldn (c := 1) (by decide +kernel : zi 95 0 = some (.aload_n 0, 1)) rfl ⟨by omega, by omega⟩ ?_
  refine Fr.gR (c := 0) (c2 := 58) (ci := 7) (k := 6) 6 (by decide +kernel : zi 95 1 = some (.getfield 74, 3)) (by decide +kernel) (by decide +kernel) (by decide +kernel) (by decide) rfl (fun q => q (0, 6, 58) (by decide +kernel)) ?_
  refine Fr.aldn (c := 1) (by decide +kernel : zi 95 4 = some (.aload_n 0, 1)) rfl ⟨by omega, by omega⟩ ?_
  refine Fr.callR (y2 := 122) (na := 1) (as := [rf 1]) (rest := [rf 58]) (by decide +kernel : zi 95 5 = some (.invokevirtual 130, 3)) rfl (by decide +kernel) (by decide +kernel) rfl rfl (zok_V rfl (by decide) (by decide +kernel) (by decide +kernel) (zrecv_c (c := 0) (by decide) (by decide +kernel)) rfl (Nat.le_of_ble_eq_true rfl)) h (fun c9 s1 h => ?_)
  obtain ⟨tq2, htq2, g0, h⟩ := h
  subst g0
  refine Fr.callV (y2 := 34) (na := 2) (as := [rf 58, rf (21 + 4 * tq2 + 1)]) (rest := []) (by decide +kernel : zi 95 8 = some (.invokevirtual 134, 3)) rfl (by decide +kernel) (by decide +kernel) rfl rfl (zok_V rfl (by decide) (by decide +kernel) (by decide +kernel) (zrecv_c (c := 57) (by decide) (by decide +kernel)) rfl (Nat.le_of_ble_eq_true rfl)) h (fun s3 h => ?_)
  refine Fr.iconst (by decide +kernel : zi 95 11 = some (.iconst 0, 1)) (by decide) ?_
  refine Fr.istn (lv2 := [some (rf 1), some (it 0), none]) (by decide +kernel : zi 95 12 = some (.istore_n 1, 1)) (Nat.le_of_ble_eq_true rfl) rfl ?_
  refine Fr.iconst (by decide +kernel : zi 95 13 = some (.iconst 0, 1)) (by decide) ?_
  refine Fr.istn (lv2 := [some (rf 1), some (it 0), some (it 0)]) (by decide +kernel : zi 95 14 = some (.istore_n 2, 1)) (Nat.le_of_ble_eq_true rfl) rfl ?_
  exact h
theorem e95 {xs : Nat → Int} {L : Nat} {d : Nat}  {s : Pl} {Q : Option AV → Pl → Prop} (hd : 1 ≤ d) (k : Fr xs L T0 106 (d - 1) 95 0 [some (rf 1), none, none] [] s Q) : Ev xs L T0 106 d 95 [rf 1] s Q := Ev.of (by decide) _ rfl hd k
theorem f95_15 {xs : Nat → Int} {L : Nat} {d : Nat} {v1 : Int} {v2 : Int} {s : Pl} {P : Int → Pl → Prop} (h : ((4 ≤ v2 → P v1 s) ∧ (¬ (4 ≤ v2) → Ev xs L T0 106 d 6 [rf 2, it v2] s (qi fun r2 s1 => Ev xs L T0 106 d 48 [rf 58, it r2] s1 (qi fun r4 s3 => ((¬ r4 = 0 → Fr xs L T0 106 d 95 44 [some (rf 1), some (it v1), some (it v2)] [] s3 (qi P)) ∧ (¬ (¬ r4 = 0) → Fr xs L T0 106 d 95 44 [some (rf 1), some (it (zor v1 (zshl 1 v2))), some (it v2)] [] s3 (qi P)))))))) : Fr xs L T0 106 d 95 15 [some (rf 1), some (it v1), some (it v2)] [] s (qi P) := by
  refine Fr.ildn (by decide +kernel : zi 95 15 = some (.iload_n 2, 1)) rfl ?_
  refine Fr.iconst (by decide +kernel : zi 95 16 = some (.iconst 4, 1)) (by decide) ?_
  refine Fr.if2 (q := 50) (by decide +kernel : zi 95 17 = some (.if_icmp .ge 33, 3)) (by decide +kernel) (fun g9 => ?_) (fun g9 => ?_)
  · have h := h.1 g9
    refine Fr.ildn (by decide +kernel : zi 95 50 = some (.iload_n 1, 1)) rfl ?_
    exact Fr.retI (by decide +kernel : zi 95 51 = some (.ireturn, 1)) (by decide +kernel) h
  · have h := h.2 g9
    refine Fr.aldn (c := 1) (by decide +kernel : zi 95 20 = some (.aload_n 0, 1)) rfl ⟨by omega, by omega⟩ ?_
    refine Fr.gR (c := 0) (c2 := 58) (ci := 7) (k := 6) 6 (by decide +kernel : zi 95 21 = some (.getfield 74, 3)) (by decide +kernel) (by decide +kernel) (by decide +kernel) (by decide) rfl (fun q => q (0, 6, 58) (by decide +kernel)) ?_
    refine Fr.aldn (c := 1) (by decide +kernel : zi 95 24 = some (.aload_n 0, 1)) rfl ⟨by omega, by omega⟩ ?_
    refine Fr.gR (c := 0) (c2 := 2) (ci := 7) (k := 0) 0 (by decide +kernel : zi 95 25 = some (.getfield 10, 3)) (by decide +kernel) (by decide +kernel) (by decide +kernel) (by decide) rfl (fun q => q (0, 0, 2) (by decide +kernel)) ?_
    refine Fr.ildn (by decide +kernel : zi 95 28 = some (.iload_n 2, 1)) rfl ?_
    refine Fr.callI (y2 := 6) (na := 2) (as := [rf 2, it v2]) (rest := [rf 58]) (by decide +kernel : zi 95 29 = some (.invokevirtual 112, 3)) rfl (by decide +kernel) (by decide +kernel) rfl rfl (zok_V rfl (by decide) (by decide +kernel) (by decide +kernel) (zrecv_c (c := 1) (by decide) (by decide +kernel)) rfl (Nat.le_of_ble_eq_true rfl)) h (fun r2 s1 h => ?_)
    refine Fr.callI (y2 := 48) (na := 2) (as := [rf 58, it r2]) (rest := []) (by decide +kernel : zi 95 32 = some (.invokevirtual 190, 3)) rfl (by decide +kernel) (by decide +kernel) rfl rfl (zok_V rfl (by decide) (by decide +kernel) (by decide +kernel) (zrecv_c (c := 57) (by decide) (by decide +kernel)) rfl (Nat.le_of_ble_eq_true rfl)) h (fun r4 s3 h => ?_)
    refine Fr.if0 (q := 44) (by decide +kernel : zi 95 35 = some (.ifCond .ne 9, 3)) (by decide +kernel) (fun g9 => ?_) (fun g9 => ?_)
    · have h := h.1 g9
      exact h
    · have h := h.2 g9
      refine Fr.ildn (by decide +kernel : zi 95 38 = some (.iload_n 1, 1)) rfl ?_
      refine Fr.iconst (by decide +kernel : zi 95 39 = some (.iconst 1, 1)) (by decide) ?_
      refine Fr.ildn (by decide +kernel : zi 95 40 = some (.iload_n 2, 1)) rfl ?_
      refine Fr.ishl (by decide +kernel : zi 95 41 = some (.ishl, 1)) ?_
      refine Fr.ior (by decide +kernel : zi 95 42 = some (.ior, 1)) ?_
      refine Fr.istn (lv2 := [some (rf 1), some (it (zor v1 (zshl 1 v2))), some (it v2)]) (by decide +kernel : zi 95 43 = some (.istore_n 1, 1)) (Nat.le_of_ble_eq_true rfl) rfl ?_
      exact h
theorem f95_44 {xs : Nat → Int} {L : Nat} {d : Nat} {v1 : Int} {v2 : Int} {s : Pl} {P : Int → Pl → Prop} (h : Fr xs L T0 106 d 95 15 [some (rf 1), some (it v1), some (it (zw (v2 + 1)))] [] s (qi P)) : Fr xs L T0 106 d 95 44 [some (rf 1), some (it v1), some (it v2)] [] s (qi P) := by
  refine Fr.iinc (lv2 := [some (rf 1), some (it v1), some (it (zw (v2 + 1)))]) (by decide +kernel : zi 95 44 = some (.iinc 2 1, 3)) (Nat.le_of_ble_eq_true rfl) rfl rfl ?_
  refine Fr.goto (q := 15) (by decide +kernel : zi 95 47 = some (.goto (-32), 3)) (by decide +kernel) ?_
  exact h
-- 96 X7_move
theorem f96_0 {xs : Nat → Int} {L : Nat} {d : Nat} {v1 : Int} {v2 : Int} {v3 : Int} {s : Pl} {P : Int → Pl → Prop} (h : ((¬ v1 = 0 → ((¬ v1 = 1 → Fr xs L T0 106 d 96 19 [some (rf 1), some (it v1), some (it v2), some (it v3), none] [it 99] s (qi P)) ∧ (¬ (¬ v1 = 1) → Fr xs L T0 106 d 96 19 [some (rf 1), some (it v1), some (it v2), some (it v3), none] [it 5] s (qi P)))) ∧ (¬ (¬ v1 = 0) → Fr xs L T0 106 d 96 19 [some (rf 1), some (it v1), some (it v2), some (it v3), none] [it 3] s (qi P)))) : Fr xs L T0 106 d 96 0 [some (rf 1), some (it v1), some (it v2), some (it v3), none] [] s (qi P) := by
  refine Fr.ildn (by decide +kernel : zi 96 0 = some (.iload_n 1, 1)) rfl ?_
  refine Fr.if0 (q := 8) (by decide +kernel : zi 96 1 = some (.ifCond .ne 7, 3)) (by decide +kernel) (fun g9 => ?_) (fun g9 => ?_)
  · have h := h.1 g9
    refine Fr.ildn (by decide +kernel : zi 96 8 = some (.iload_n 1, 1)) rfl ?_
    refine Fr.iconst (by decide +kernel : zi 96 9 = some (.iconst 1, 1)) (by decide) ?_
    refine Fr.if2 (q := 17) (by decide +kernel : zi 96 10 = some (.if_icmp .ne 7, 3)) (by decide +kernel) (fun g9 => ?_) (fun g9 => ?_)
    · have h := h.1 g9
      refine Fr.bipush (by decide +kernel : zi 96 17 = some (.bipush 99, 2)) (by decide) ?_
      exact h
    · have h := h.2 g9
      refine Fr.iconst (by decide +kernel : zi 96 13 = some (.iconst 5, 1)) (by decide) ?_
      refine Fr.goto (q := 19) (by decide +kernel : zi 96 14 = some (.goto 5, 3)) (by decide +kernel) ?_
      exact h
  · have h := h.2 g9
    refine Fr.iconst (by decide +kernel : zi 96 4 = some (.iconst 3, 1)) (by decide) ?_
    refine Fr.goto (q := 19) (by decide +kernel : zi 96 5 = some (.goto 14, 3)) (by decide +kernel) ?_
    exact h
theorem e96 {xs : Nat → Int} {L : Nat} {d : Nat} {v1 : Int} {v2 : Int} {v3 : Int} {s : Pl} {Q : Option AV → Pl → Prop} (hd : 1 ≤ d) (k : Fr xs L T0 106 (d - 1) 96 0 [some (rf 1), some (it v1), some (it v2), some (it v3), none] [] s Q) : Ev xs L T0 106 d 96 [rf 1, it v1, it v2, it v3] s Q := Ev.of (by decide) _ rfl hd k
theorem f96_19 {xs : Nat → Int} {L : Nat} {d : Nat} {v1 : Int} {v2 : Int} {v3 : Int} {vs0 : Int} {s : Pl} {P : Int → Pl → Prop} (h : ((v1 < 0 → P (-2) s) ∧ (¬ (v1 < 0) → ((2 < v1 → P (-2) s) ∧ (¬ (2 < v1) → ((v2 < 0 → P (-2) s) ∧ (¬ (v2 < 0) → ((vs0 < v2 → P (-2) s) ∧ (¬ (vs0 < v2) → ((v3 < 0 → P (-2) s) ∧ (¬ (v3 < 0) → ((v3 < 6 → ((s 68 4 < 16 → Ev xs L T0 106 d 73 [rf 69, it v1, it v2, it v3] s (qv fun s1 => P (zw ((s1 68 4) - 1)) s1)) ∧ (¬ (s 68 4 < 16) → P (-4) s))) ∧ (¬ (v3 < 6) → P (-2) s))))))))))))) : Fr xs L T0 106 d 96 19 [some (rf 1), some (it v1), some (it v2), some (it v3), none] [it vs0] s (qi P) := by
  refine Fr.ist (lv2 := [some (rf 1), some (it v1), some (it v2), some (it v3), some (it vs0)]) (by decide +kernel : zi 96 19 = some (.istore 4, 2)) (Nat.le_of_ble_eq_true rfl) rfl ?_
  refine Fr.ildn (by decide +kernel : zi 96 21 = some (.iload_n 1, 1)) rfl ?_
  refine Fr.if0 (q := 50) (by decide +kernel : zi 96 22 = some (.ifCond .lt 28, 3)) (by decide +kernel) (fun g9 => ?_) (fun g9 => ?_)
  · have h := h.1 g9
    refine Fr.bipush (by decide +kernel : zi 96 50 = some (.bipush (-2), 2)) (by decide) ?_
    exact Fr.retI (by decide +kernel : zi 96 52 = some (.ireturn, 1)) (by decide +kernel) h
  · have h := h.2 g9
    refine Fr.ildn (by decide +kernel : zi 96 25 = some (.iload_n 1, 1)) rfl ?_
    refine Fr.iconst (by decide +kernel : zi 96 26 = some (.iconst 2, 1)) (by decide) ?_
    refine Fr.if2 (q := 50) (by decide +kernel : zi 96 27 = some (.if_icmp .gt 23, 3)) (by decide +kernel) (fun g9 => ?_) (fun g9 => ?_)
    · have h := h.1 g9
      refine Fr.bipush (by decide +kernel : zi 96 50 = some (.bipush (-2), 2)) (by decide) ?_
      exact Fr.retI (by decide +kernel : zi 96 52 = some (.ireturn, 1)) (by decide +kernel) h
    · have h := h.2 g9
      refine Fr.ildn (by decide +kernel : zi 96 30 = some (.iload_n 2, 1)) rfl ?_
      refine Fr.if0 (q := 50) (by decide +kernel : zi 96 31 = some (.ifCond .lt 19, 3)) (by decide +kernel) (fun g9 => ?_) (fun g9 => ?_)
      · have h := h.1 g9
        refine Fr.bipush (by decide +kernel : zi 96 50 = some (.bipush (-2), 2)) (by decide) ?_
        exact Fr.retI (by decide +kernel : zi 96 52 = some (.ireturn, 1)) (by decide +kernel) h
      · have h := h.2 g9
        refine Fr.ildn (by decide +kernel : zi 96 34 = some (.iload_n 2, 1)) rfl ?_
        refine Fr.ild (by decide +kernel : zi 96 35 = some (.iload 4, 2)) rfl ?_
        refine Fr.if2 (q := 50) (by decide +kernel : zi 96 37 = some (.if_icmp .gt 13, 3)) (by decide +kernel) (fun g9 => ?_) (fun g9 => ?_)
        · have h := h.1 g9
          refine Fr.bipush (by decide +kernel : zi 96 50 = some (.bipush (-2), 2)) (by decide) ?_
          exact Fr.retI (by decide +kernel : zi 96 52 = some (.ireturn, 1)) (by decide +kernel) h
        · have h := h.2 g9
          refine Fr.ildn (by decide +kernel : zi 96 40 = some (.iload_n 3, 1)) rfl ?_
          refine Fr.if0 (q := 50) (by decide +kernel : zi 96 41 = some (.ifCond .lt 9, 3)) (by decide +kernel) (fun g9 => ?_) (fun g9 => ?_)
          · have h := h.1 g9
            refine Fr.bipush (by decide +kernel : zi 96 50 = some (.bipush (-2), 2)) (by decide) ?_
            exact Fr.retI (by decide +kernel : zi 96 52 = some (.ireturn, 1)) (by decide +kernel) h
          · have h := h.2 g9
            refine Fr.ildn (by decide +kernel : zi 96 44 = some (.iload_n 3, 1)) rfl ?_
            refine Fr.bipush (by decide +kernel : zi 96 45 = some (.bipush 6, 2)) (by decide) ?_
            refine Fr.if2 (q := 53) (by decide +kernel : zi 96 47 = some (.if_icmp .lt 6, 3)) (by decide +kernel) (fun g9 => ?_) (fun g9 => ?_)
            · have h := h.1 g9
              refine Fr.aldn (c := 1) (by decide +kernel : zi 96 53 = some (.aload_n 0, 1)) rfl ⟨by omega, by omega⟩ ?_
              refine Fr.gR (c := 0) (c2 := 69) (ci := 7) (k := 8) 8 (by decide +kernel : zi 96 54 = some (.getfield 90, 3)) (by decide +kernel) (by decide +kernel) (by decide +kernel) (by decide) rfl (fun q => q (0, 8, 69) (by decide +kernel)) ?_
              refine Fr.gI (c := 68) (ci := 6) (k := 4) (t := 0) 4 (by decide +kernel : zi 96 57 = some (.getfield 121, 3)) (by decide +kernel) (by decide +kernel) (by decide +kernel) (by decide) rfl ?_
              refine Fr.bipush (by decide +kernel : zi 96 60 = some (.bipush 16, 2)) (by decide) ?_
              refine Fr.if2 (q := 68) (by decide +kernel : zi 96 62 = some (.if_icmp .lt 6, 3)) (by decide +kernel) (fun g9 => ?_) (fun g9 => ?_)
              · have h := h.1 g9
                refine Fr.aldn (c := 1) (by decide +kernel : zi 96 68 = some (.aload_n 0, 1)) rfl ⟨by omega, by omega⟩ ?_
                refine Fr.gR (c := 0) (c2 := 69) (ci := 7) (k := 8) 8 (by decide +kernel : zi 96 69 = some (.getfield 90, 3)) (by decide +kernel) (by decide +kernel) (by decide +kernel) (by decide) rfl (fun q => q (0, 8, 69) (by decide +kernel)) ?_
                refine Fr.ildn (by decide +kernel : zi 96 72 = some (.iload_n 1, 1)) rfl ?_
                refine Fr.ildn (by decide +kernel : zi 96 73 = some (.iload_n 2, 1)) rfl ?_
                refine Fr.ildn (by decide +kernel : zi 96 74 = some (.iload_n 3, 1)) rfl ?_
                refine Fr.callV (y2 := 73) (na := 4) (as := [rf 69, it v1, it v2, it v3]) (rest := []) (by decide +kernel : zi 96 75 = some (.invokevirtual 193, 3)) rfl (by decide +kernel) (by decide +kernel) rfl rfl (zok_V rfl (by decide) (by decide +kernel) (by decide +kernel) (zrecv_c (c := 68) (by decide) (by decide +kernel)) rfl (Nat.le_of_ble_eq_true rfl)) h (fun s1 h => ?_)
                refine Fr.aldn (c := 1) (by decide +kernel : zi 96 78 = some (.aload_n 0, 1)) rfl ⟨by omega, by omega⟩ ?_
                refine Fr.gR (c := 0) (c2 := 69) (ci := 7) (k := 8) 8 (by decide +kernel : zi 96 79 = some (.getfield 90, 3)) (by decide +kernel) (by decide +kernel) (by decide +kernel) (by decide) rfl (fun q => q (0, 8, 69) (by decide +kernel)) ?_
                refine Fr.gI (c := 68) (ci := 6) (k := 4) (t := 0) 4 (by decide +kernel : zi 96 82 = some (.getfield 121, 3)) (by decide +kernel) (by decide +kernel) (by decide +kernel) (by decide) rfl ?_
                refine Fr.iconst (by decide +kernel : zi 96 85 = some (.iconst 1, 1)) (by decide) ?_
                refine Fr.isub (by decide +kernel : zi 96 86 = some (.isub, 1)) ?_
                exact Fr.retI (by decide +kernel : zi 96 87 = some (.ireturn, 1)) (by decide +kernel) h
              · have h := h.2 g9
                refine Fr.bipush (by decide +kernel : zi 96 65 = some (.bipush (-4), 2)) (by decide) ?_
                exact Fr.retI (by decide +kernel : zi 96 67 = some (.ireturn, 1)) (by decide +kernel) h
            · have h := h.2 g9
              refine Fr.bipush (by decide +kernel : zi 96 50 = some (.bipush (-2), 2)) (by decide) ?_
              exact Fr.retI (by decide +kernel : zi 96 52 = some (.ireturn, 1)) (by decide +kernel) h
-- 97 X7_clear
theorem f97_0 {xs : Nat → Int} {L : Nat} {d : Nat}  {s : Pl} {P : Int → Pl → Prop} (h : P (s 68 4) (zup s 68 4 0)) : Fr xs L T0 106 d 97 0 [some (rf 1), none] [] s (qi P) := by
  refine Fr.aldn (c := 1) (by decide +kernel : zi 97 0 = some (.aload_n 0, 1)) rfl ⟨by omega, by omega⟩ ?_
  refine Fr.gR (c := 0) (c2 := 69) (ci := 7) (k := 8) 8 (by decide +kernel : zi 97 1 = some (.getfield 90, 3)) (by decide +kernel) (by decide +kernel) (by decide +kernel) (by decide) rfl (fun q => q (0, 8, 69) (by decide +kernel)) ?_
  refine Fr.gI (c := 68) (ci := 6) (k := 4) (t := 0) 4 (by decide +kernel : zi 97 4 = some (.getfield 121, 3)) (by decide +kernel) (by decide +kernel) (by decide +kernel) (by decide) rfl ?_
  refine Fr.istn (lv2 := [some (rf 1), some (it (s 68 4))]) (by decide +kernel : zi 97 7 = some (.istore_n 1, 1)) (Nat.le_of_ble_eq_true rfl) rfl ?_
  refine Fr.aldn (c := 1) (by decide +kernel : zi 97 8 = some (.aload_n 0, 1)) rfl ⟨by omega, by omega⟩ ?_
  refine Fr.gR (c := 0) (c2 := 69) (ci := 7) (k := 8) 8 (by decide +kernel : zi 97 9 = some (.getfield 90, 3)) (by decide +kernel) (by decide +kernel) (by decide +kernel) (by decide) rfl (fun q => q (0, 8, 69) (by decide +kernel)) ?_
  refine Fr.iconst (by decide +kernel : zi 97 12 = some (.iconst 0, 1)) (by decide) ?_
  refine Fr.pI (c := 68) (ci := 6) (k := 4) 4 (by decide +kernel : zi 97 13 = some (.putfield 121, 3)) (by decide +kernel) (by decide +kernel) (by decide +kernel) (by decide) rfl ?_
  refine Fr.ildn (by decide +kernel : zi 97 16 = some (.iload_n 1, 1)) rfl ?_
  exact Fr.retI (by decide +kernel : zi 97 17 = some (.ireturn, 1)) (by decide +kernel) h
theorem e97 {xs : Nat → Int} {L : Nat} {d : Nat}  {s : Pl} {Q : Option AV → Pl → Prop} (hd : 1 ≤ d) (k : Fr xs L T0 106 (d - 1) 97 0 [some (rf 1), none] [] s Q) : Ev xs L T0 106 d 97 [rf 1] s Q := Ev.of (by decide) _ rfl hd k
-- 98 X7_judge
theorem f98_0 {xs : Nat → Int} {L : Nat} {d : Nat}  {s : Pl} {P : Int → Pl → Prop} (h : Ev xs L T0 106 d 122 [rf 1] s (qr fun c9 s1 => ∃ tq2 : Nat, tq2 < 6 ∧ c9 = 21 + 4 * tq2 + 1 ∧ Ev xs L T0 106 d 34 [rf 58, rf (21 + 4 * tq2 + 1)] s1 (qv fun s3 => Ev xs L T0 106 d 75 [rf 69, it (s3 68 4)] s3 (qv fun s4 => P (s4 68 7) s4)))) : Fr xs L T0 106 d 98 0 [some (rf 1)] [] s (qi P) := by
  refine Fr.aldn (c := 1) (by decide +kernel : zi 98 0 = some (.aload_n 0, 1)) rfl ⟨by omega, by omega⟩ ?_
  refine Fr.gR (c := 0) (c2 := 58) (ci := 7) (k := 6) 6 (by decide +kernel : zi 98 1 = some (.getfield 74, 3)) (by decide +kernel) (by decide +kernel) (by decide +kernel) (by decide) rfl (fun q => q (0, 6, 58) (by decide +kernel)) ?_
  refine Fr.aldn (c := 1) (by decide +kernel : zi 98 4 = some (.aload_n 0, 1)) rfl ⟨by omega, by omega⟩ ?_
  refine Fr.callR (y2 := 122) (na := 1) (as := [rf 1]) (rest := [rf 58]) (by decide +kernel : zi 98 5 = some (.invokevirtual 130, 3)) rfl (by decide +kernel) (by decide +kernel) rfl rfl (zok_V rfl (by decide) (by decide +kernel) (by decide +kernel) (zrecv_c (c := 0) (by decide) (by decide +kernel)) rfl (Nat.le_of_ble_eq_true rfl)) h (fun c9 s1 h => ?_)
  obtain ⟨tq2, htq2, g0, h⟩ := h
  subst g0
  refine Fr.callV (y2 := 34) (na := 2) (as := [rf 58, rf (21 + 4 * tq2 + 1)]) (rest := []) (by decide +kernel : zi 98 8 = some (.invokevirtual 134, 3)) rfl (by decide +kernel) (by decide +kernel) rfl rfl (zok_V rfl (by decide) (by decide +kernel) (by decide +kernel) (zrecv_c (c := 57) (by decide) (by decide +kernel)) rfl (Nat.le_of_ble_eq_true rfl)) h (fun s3 h => ?_)
  refine Fr.aldn (c := 1) (by decide +kernel : zi 98 11 = some (.aload_n 0, 1)) rfl ⟨by omega, by omega⟩ ?_
  refine Fr.gR (c := 0) (c2 := 69) (ci := 7) (k := 8) 8 (by decide +kernel : zi 98 12 = some (.getfield 90, 3)) (by decide +kernel) (by decide +kernel) (by decide +kernel) (by decide) rfl (fun q => q (0, 8, 69) (by decide +kernel)) ?_
  refine Fr.aldn (c := 1) (by decide +kernel : zi 98 15 = some (.aload_n 0, 1)) rfl ⟨by omega, by omega⟩ ?_
  refine Fr.gR (c := 0) (c2 := 69) (ci := 7) (k := 8) 8 (by decide +kernel : zi 98 16 = some (.getfield 90, 3)) (by decide +kernel) (by decide +kernel) (by decide +kernel) (by decide) rfl (fun q => q (0, 8, 69) (by decide +kernel)) ?_
  refine Fr.gI (c := 68) (ci := 6) (k := 4) (t := 0) 4 (by decide +kernel : zi 98 19 = some (.getfield 121, 3)) (by decide +kernel) (by decide +kernel) (by decide +kernel) (by decide) rfl ?_
  refine Fr.callV (y2 := 75) (na := 2) (as := [rf 69, it (s3 68 4)]) (rest := []) (by decide +kernel : zi 98 22 = some (.invokevirtual 196, 3)) rfl (by decide +kernel) (by decide +kernel) rfl rfl (zok_V rfl (by decide) (by decide +kernel) (by decide +kernel) (zrecv_c (c := 68) (by decide) (by decide +kernel)) rfl (Nat.le_of_ble_eq_true rfl)) h (fun s4 h => ?_)
  refine Fr.aldn (c := 1) (by decide +kernel : zi 98 25 = some (.aload_n 0, 1)) rfl ⟨by omega, by omega⟩ ?_
  refine Fr.gR (c := 0) (c2 := 69) (ci := 7) (k := 8) 8 (by decide +kernel : zi 98 26 = some (.getfield 90, 3)) (by decide +kernel) (by decide +kernel) (by decide +kernel) (by decide) rfl (fun q => q (0, 8, 69) (by decide +kernel)) ?_
  refine Fr.gI (c := 68) (ci := 6) (k := 7) (t := 0) 7 (by decide +kernel : zi 98 29 = some (.getfield 199, 3)) (by decide +kernel) (by decide +kernel) (by decide +kernel) (by decide) rfl ?_
  exact Fr.retI (by decide +kernel : zi 98 32 = some (.ireturn, 1)) (by decide +kernel) h
theorem e98 {xs : Nat → Int} {L : Nat} {d : Nat}  {s : Pl} {Q : Option AV → Pl → Prop} (hd : 1 ≤ d) (k : Fr xs L T0 106 (d - 1) 98 0 [some (rf 1)] [] s Q) : Ev xs L T0 106 d 98 [rf 1] s Q := Ev.of (by decide) _ rfl hd k
-- 99 X7_run
theorem f99_0 {xs : Nat → Int} {L : Nat} {d : Nat} {v1 : Int} {v2 : Int} {s : Pl} {P : Int → Pl → Prop} (h : ((v1 < 0 → P (-5) s) ∧ (¬ (v1 < 0) → ((v1 ≤ s 68 4 → ((v2 < 0 → P (-7) s) ∧ (¬ (v2 < 0) → ((v2 ≤ 3 → Ev xs L T0 106 d 122 [rf 1] s (qr fun c9 s1 => ∃ tq2 : Nat, tq2 < 6 ∧ c9 = 21 + 4 * tq2 + 1 ∧ Ev xs L T0 106 d 34 [rf 58, rf (21 + 4 * tq2 + 1)] s1 (qv fun s3 => Ev xs L T0 106 d 75 [rf 69, it v1] s3 (qv fun s4 => ((¬ v2 = 0 → ((¬ v2 = 1 → ((¬ v2 = 2 → P (s4 68 8) s4) ∧ (¬ (¬ v2 = 2) → Ev xs L T0 106 d 41 [rf 58] s4 (qi fun r6 s5 => P r6 s5)))) ∧ (¬ (¬ v2 = 1) → P (s4 57 11) s4))) ∧ (¬ (¬ v2 = 0) → P (s4 68 6) s4)))))) ∧ (¬ (v2 ≤ 3) → P (-7) s))))) ∧ (¬ (v1 ≤ s 68 4) → P (-5) s))))) : Fr xs L T0 106 d 99 0 [some (rf 1), some (it v1), some (it v2)] [] s (qi P) := by
  refine Fr.ildn (by decide +kernel : zi 99 0 = some (.iload_n 1, 1)) rfl ?_
  refine Fr.if0 (q := 15) (by decide +kernel : zi 99 1 = some (.ifCond .lt 14, 3)) (by decide +kernel) (fun g9 => ?_) (fun g9 => ?_)
  · have h := h.1 g9
    refine Fr.bipush (by decide +kernel : zi 99 15 = some (.bipush (-5), 2)) (by decide) ?_
    exact Fr.retI (by decide +kernel : zi 99 17 = some (.ireturn, 1)) (by decide +kernel) h
  · have h := h.2 g9
    refine Fr.ildn (by decide +kernel : zi 99 4 = some (.iload_n 1, 1)) rfl ?_
    refine Fr.aldn (c := 1) (by decide +kernel : zi 99 5 = some (.aload_n 0, 1)) rfl ⟨by omega, by omega⟩ ?_
    refine Fr.gR (c := 0) (c2 := 69) (ci := 7) (k := 8) 8 (by decide +kernel : zi 99 6 = some (.getfield 90, 3)) (by decide +kernel) (by decide +kernel) (by decide +kernel) (by decide) rfl (fun q => q (0, 8, 69) (by decide +kernel)) ?_
    refine Fr.gI (c := 68) (ci := 6) (k := 4) (t := 0) 4 (by decide +kernel : zi 99 9 = some (.getfield 121, 3)) (by decide +kernel) (by decide +kernel) (by decide +kernel) (by decide) rfl ?_
    refine Fr.if2 (q := 18) (by decide +kernel : zi 99 12 = some (.if_icmp .le 6, 3)) (by decide +kernel) (fun g9 => ?_) (fun g9 => ?_)
    · have h := h.1 g9
      refine Fr.ildn (by decide +kernel : zi 99 18 = some (.iload_n 2, 1)) rfl ?_
      refine Fr.if0 (q := 27) (by decide +kernel : zi 99 19 = some (.ifCond .lt 8, 3)) (by decide +kernel) (fun g9 => ?_) (fun g9 => ?_)
      · have h := h.1 g9
        refine Fr.bipush (by decide +kernel : zi 99 27 = some (.bipush (-7), 2)) (by decide) ?_
        exact Fr.retI (by decide +kernel : zi 99 29 = some (.ireturn, 1)) (by decide +kernel) h
      · have h := h.2 g9
        refine Fr.ildn (by decide +kernel : zi 99 22 = some (.iload_n 2, 1)) rfl ?_
        refine Fr.iconst (by decide +kernel : zi 99 23 = some (.iconst 3, 1)) (by decide) ?_
        refine Fr.if2 (q := 30) (by decide +kernel : zi 99 24 = some (.if_icmp .le 6, 3)) (by decide +kernel) (fun g9 => ?_) (fun g9 => ?_)
        · have h := h.1 g9
          refine Fr.aldn (c := 1) (by decide +kernel : zi 99 30 = some (.aload_n 0, 1)) rfl ⟨by omega, by omega⟩ ?_
          refine Fr.gR (c := 0) (c2 := 58) (ci := 7) (k := 6) 6 (by decide +kernel : zi 99 31 = some (.getfield 74, 3)) (by decide +kernel) (by decide +kernel) (by decide +kernel) (by decide) rfl (fun q => q (0, 6, 58) (by decide +kernel)) ?_
          refine Fr.aldn (c := 1) (by decide +kernel : zi 99 34 = some (.aload_n 0, 1)) rfl ⟨by omega, by omega⟩ ?_
          refine Fr.callR (y2 := 122) (na := 1) (as := [rf 1]) (rest := [rf 58]) (by decide +kernel : zi 99 35 = some (.invokevirtual 130, 3)) rfl (by decide +kernel) (by decide +kernel) rfl rfl (zok_V rfl (by decide) (by decide +kernel) (by decide +kernel) (zrecv_c (c := 0) (by decide) (by decide +kernel)) rfl (Nat.le_of_ble_eq_true rfl)) h (fun c9 s1 h => ?_)
          obtain ⟨tq2, htq2, g0, h⟩ := h
          subst g0
          refine Fr.callV (y2 := 34) (na := 2) (as := [rf 58, rf (21 + 4 * tq2 + 1)]) (rest := []) (by decide +kernel : zi 99 38 = some (.invokevirtual 134, 3)) rfl (by decide +kernel) (by decide +kernel) rfl rfl (zok_V rfl (by decide) (by decide +kernel) (by decide +kernel) (zrecv_c (c := 57) (by decide) (by decide +kernel)) rfl (Nat.le_of_ble_eq_true rfl)) h (fun s3 h => ?_)
          refine Fr.aldn (c := 1) (by decide +kernel : zi 99 41 = some (.aload_n 0, 1)) rfl ⟨by omega, by omega⟩ ?_
          refine Fr.gR (c := 0) (c2 := 69) (ci := 7) (k := 8) 8 (by decide +kernel : zi 99 42 = some (.getfield 90, 3)) (by decide +kernel) (by decide +kernel) (by decide +kernel) (by decide) rfl (fun q => q (0, 8, 69) (by decide +kernel)) ?_
          refine Fr.ildn (by decide +kernel : zi 99 45 = some (.iload_n 1, 1)) rfl ?_
          refine Fr.callV (y2 := 75) (na := 2) (as := [rf 69, it v1]) (rest := []) (by decide +kernel : zi 99 46 = some (.invokevirtual 196, 3)) rfl (by decide +kernel) (by decide +kernel) rfl rfl (zok_V rfl (by decide) (by decide +kernel) (by decide +kernel) (zrecv_c (c := 68) (by decide) (by decide +kernel)) rfl (Nat.le_of_ble_eq_true rfl)) h (fun s4 h => ?_)
          refine Fr.ildn (by decide +kernel : zi 99 49 = some (.iload_n 2, 1)) rfl ?_
          refine Fr.if0 (q := 63) (by decide +kernel : zi 99 50 = some (.ifCond .ne 13, 3)) (by decide +kernel) (fun g9 => ?_) (fun g9 => ?_)
          · have h := h.1 g9
            refine Fr.ildn (by decide +kernel : zi 99 63 = some (.iload_n 2, 1)) rfl ?_
            refine Fr.iconst (by decide +kernel : zi 99 64 = some (.iconst 1, 1)) (by decide) ?_
            refine Fr.if2 (q := 78) (by decide +kernel : zi 99 65 = some (.if_icmp .ne 13, 3)) (by decide +kernel) (fun g9 => ?_) (fun g9 => ?_)
            · have h := h.1 g9
              refine Fr.ildn (by decide +kernel : zi 99 78 = some (.iload_n 2, 1)) rfl ?_
              refine Fr.iconst (by decide +kernel : zi 99 79 = some (.iconst 2, 1)) (by decide) ?_
              refine Fr.if2 (q := 93) (by decide +kernel : zi 99 80 = some (.if_icmp .ne 13, 3)) (by decide +kernel) (fun g9 => ?_) (fun g9 => ?_)
              · have h := h.1 g9
                refine Fr.aldn (c := 1) (by decide +kernel : zi 99 93 = some (.aload_n 0, 1)) rfl ⟨by omega, by omega⟩ ?_
                refine Fr.gR (c := 0) (c2 := 69) (ci := 7) (k := 8) 8 (by decide +kernel : zi 99 94 = some (.getfield 90, 3)) (by decide +kernel) (by decide +kernel) (by decide +kernel) (by decide) rfl (fun q => q (0, 8, 69) (by decide +kernel)) ?_
                refine Fr.gI (c := 68) (ci := 6) (k := 8) (t := 0) 8 (by decide +kernel : zi 99 97 = some (.getfield 209, 3)) (by decide +kernel) (by decide +kernel) (by decide +kernel) (by decide) rfl ?_
                exact Fr.retI (by decide +kernel : zi 99 100 = some (.ireturn, 1)) (by decide +kernel) h
              · have h := h.2 g9
                refine Fr.aldn (c := 1) (by decide +kernel : zi 99 83 = some (.aload_n 0, 1)) rfl ⟨by omega, by omega⟩ ?_
                refine Fr.gR (c := 0) (c2 := 58) (ci := 7) (k := 6) 6 (by decide +kernel : zi 99 84 = some (.getfield 74, 3)) (by decide +kernel) (by decide +kernel) (by decide +kernel) (by decide) rfl (fun q => q (0, 6, 58) (by decide +kernel)) ?_
                refine Fr.callI (y2 := 41) (na := 1) (as := [rf 58]) (rest := []) (by decide +kernel : zi 99 87 = some (.invokevirtual 206, 3)) rfl (by decide +kernel) (by decide +kernel) rfl rfl (zok_V rfl (by decide) (by decide +kernel) (by decide +kernel) (zrecv_c (c := 57) (by decide) (by decide +kernel)) rfl (Nat.le_of_ble_eq_true rfl)) h (fun r6 s5 h => ?_)
                refine Fr.goto (q := 100) (by decide +kernel : zi 99 90 = some (.goto 10, 3)) (by decide +kernel) ?_
                exact Fr.retI (by decide +kernel : zi 99 100 = some (.ireturn, 1)) (by decide +kernel) h
            · have h := h.2 g9
              refine Fr.aldn (c := 1) (by decide +kernel : zi 99 68 = some (.aload_n 0, 1)) rfl ⟨by omega, by omega⟩ ?_
              refine Fr.gR (c := 0) (c2 := 58) (ci := 7) (k := 6) 6 (by decide +kernel : zi 99 69 = some (.getfield 74, 3)) (by decide +kernel) (by decide +kernel) (by decide +kernel) (by decide) rfl (fun q => q (0, 6, 58) (by decide +kernel)) ?_
              refine Fr.gI (c := 57) (ci := 3) (k := 11) (t := 0) 11 (by decide +kernel : zi 99 72 = some (.getfield 205, 3)) (by decide +kernel) (by decide +kernel) (by decide +kernel) (by decide) rfl ?_
              refine Fr.goto (q := 100) (by decide +kernel : zi 99 75 = some (.goto 25, 3)) (by decide +kernel) ?_
              exact Fr.retI (by decide +kernel : zi 99 100 = some (.ireturn, 1)) (by decide +kernel) h
          · have h := h.2 g9
            refine Fr.aldn (c := 1) (by decide +kernel : zi 99 53 = some (.aload_n 0, 1)) rfl ⟨by omega, by omega⟩ ?_
            refine Fr.gR (c := 0) (c2 := 69) (ci := 7) (k := 8) 8 (by decide +kernel : zi 99 54 = some (.getfield 90, 3)) (by decide +kernel) (by decide +kernel) (by decide +kernel) (by decide) rfl (fun q => q (0, 8, 69) (by decide +kernel)) ?_
            refine Fr.gI (c := 68) (ci := 6) (k := 6) (t := 0) 6 (by decide +kernel : zi 99 57 = some (.getfield 202, 3)) (by decide +kernel) (by decide +kernel) (by decide +kernel) (by decide) rfl ?_
            refine Fr.goto (q := 100) (by decide +kernel : zi 99 60 = some (.goto 40, 3)) (by decide +kernel) ?_
            exact Fr.retI (by decide +kernel : zi 99 100 = some (.ireturn, 1)) (by decide +kernel) h
        · have h := h.2 g9
          refine Fr.bipush (by decide +kernel : zi 99 27 = some (.bipush (-7), 2)) (by decide) ?_
          exact Fr.retI (by decide +kernel : zi 99 29 = some (.ireturn, 1)) (by decide +kernel) h
    · have h := h.2 g9
      refine Fr.bipush (by decide +kernel : zi 99 15 = some (.bipush (-5), 2)) (by decide) ?_
      exact Fr.retI (by decide +kernel : zi 99 17 = some (.ireturn, 1)) (by decide +kernel) h
theorem e99 {xs : Nat → Int} {L : Nat} {d : Nat} {v1 : Int} {v2 : Int} {s : Pl} {Q : Option AV → Pl → Prop} (hd : 1 ≤ d) (k : Fr xs L T0 106 (d - 1) 99 0 [some (rf 1), some (it v1), some (it v2)] [] s Q) : Ev xs L T0 106 d 99 [rf 1, it v1, it v2] s Q := Ev.of (by decide) _ rfl hd k
-- 100 X7_where
theorem f100_0 {xs : Nat → Int} {L : Nat} {d : Nat} {v1 : Int} {v2 : Int} {s : Pl} {P : Int → Pl → Prop} (h : ((v1 < 0 → P (-5) s) ∧ (¬ (v1 < 0) → ((s 68 4 < v1 → P (-5) s) ∧ (¬ (s 68 4 < v1) → Ev xs L T0 106 d 2 [rf 2, it v2] s (qi fun r2 s1 => ((¬ r2 = 0 → Ev xs L T0 106 d 122 [rf 1] s1 (qr fun c9 s3 => ∃ tq4 : Nat, tq4 < 6 ∧ c9 = 21 + 4 * tq4 + 1 ∧ Ev xs L T0 106 d 34 [rf 58, rf (21 + 4 * tq4 + 1)] s3 (qv fun s5 => Ev xs L T0 106 d 75 [rf 69, it v1] s5 (qv fun s6 => Ev xs L T0 106 d 44 [rf 58, it (s6 68 5), it v2] s6 (qi fun r8 s7 => P r8 s7))))) ∧ (¬ (¬ r2 = 0) → P (-5) s1)))))))) : Fr xs L T0 106 d 100 0 [some (rf 1), some (it v1), some (it v2)] [] s (qi P) := by
  refine Fr.ildn (by decide +kernel : zi 100 0 = some (.iload_n 1, 1)) rfl ?_
  refine Fr.if0 (q := 26) (by decide +kernel : zi 100 1 = some (.ifCond .lt 25, 3)) (by decide +kernel) (fun g9 => ?_) (fun g9 => ?_)
  · have h := h.1 g9
    refine Fr.bipush (by decide +kernel : zi 100 26 = some (.bipush (-5), 2)) (by decide) ?_
    exact Fr.retI (by decide +kernel : zi 100 28 = some (.ireturn, 1)) (by decide +kernel) h
  · have h := h.2 g9
    refine Fr.ildn (by decide +kernel : zi 100 4 = some (.iload_n 1, 1)) rfl ?_
    refine Fr.aldn (c := 1) (by decide +kernel : zi 100 5 = some (.aload_n 0, 1)) rfl ⟨by omega, by omega⟩ ?_
    refine Fr.gR (c := 0) (c2 := 69) (ci := 7) (k := 8) 8 (by decide +kernel : zi 100 6 = some (.getfield 90, 3)) (by decide +kernel) (by decide +kernel) (by decide +kernel) (by decide) rfl (fun q => q (0, 8, 69) (by decide +kernel)) ?_
    refine Fr.gI (c := 68) (ci := 6) (k := 4) (t := 0) 4 (by decide +kernel : zi 100 9 = some (.getfield 121, 3)) (by decide +kernel) (by decide +kernel) (by decide +kernel) (by decide) rfl ?_
    refine Fr.if2 (q := 26) (by decide +kernel : zi 100 12 = some (.if_icmp .gt 14, 3)) (by decide +kernel) (fun g9 => ?_) (fun g9 => ?_)
    · have h := h.1 g9
      refine Fr.bipush (by decide +kernel : zi 100 26 = some (.bipush (-5), 2)) (by decide) ?_
      exact Fr.retI (by decide +kernel : zi 100 28 = some (.ireturn, 1)) (by decide +kernel) h
    · have h := h.2 g9
      refine Fr.aldn (c := 1) (by decide +kernel : zi 100 15 = some (.aload_n 0, 1)) rfl ⟨by omega, by omega⟩ ?_
      refine Fr.gR (c := 0) (c2 := 2) (ci := 7) (k := 0) 0 (by decide +kernel : zi 100 16 = some (.getfield 10, 3)) (by decide +kernel) (by decide +kernel) (by decide +kernel) (by decide) rfl (fun q => q (0, 0, 2) (by decide +kernel)) ?_
      refine Fr.ildn (by decide +kernel : zi 100 19 = some (.iload_n 2, 1)) rfl ?_
      refine Fr.callI (y2 := 2) (na := 2) (as := [rf 2, it v2]) (rest := []) (by decide +kernel : zi 100 20 = some (.invokevirtual 137, 3)) rfl (by decide +kernel) (by decide +kernel) rfl rfl (zok_V rfl (by decide) (by decide +kernel) (by decide +kernel) (zrecv_c (c := 1) (by decide) (by decide +kernel)) rfl (Nat.le_of_ble_eq_true rfl)) h (fun r2 s1 h => ?_)
      refine Fr.if0 (q := 29) (by decide +kernel : zi 100 23 = some (.ifCond .ne 6, 3)) (by decide +kernel) (fun g9 => ?_) (fun g9 => ?_)
      · have h := h.1 g9
        refine Fr.aldn (c := 1) (by decide +kernel : zi 100 29 = some (.aload_n 0, 1)) rfl ⟨by omega, by omega⟩ ?_
        refine Fr.gR (c := 0) (c2 := 58) (ci := 7) (k := 6) 6 (by decide +kernel : zi 100 30 = some (.getfield 74, 3)) (by decide +kernel) (by decide +kernel) (by decide +kernel) (by decide) rfl (fun q => q (0, 6, 58) (by decide +kernel)) ?_
        refine Fr.aldn (c := 1) (by decide +kernel : zi 100 33 = some (.aload_n 0, 1)) rfl ⟨by omega, by omega⟩ ?_
        refine Fr.callR (y2 := 122) (na := 1) (as := [rf 1]) (rest := [rf 58]) (by decide +kernel : zi 100 34 = some (.invokevirtual 130, 3)) rfl (by decide +kernel) (by decide +kernel) rfl rfl (zok_V rfl (by decide) (by decide +kernel) (by decide +kernel) (zrecv_c (c := 0) (by decide) (by decide +kernel)) rfl (Nat.le_of_ble_eq_true rfl)) h (fun c9 s3 h => ?_)
        obtain ⟨tq4, htq4, g0, h⟩ := h
        subst g0
        refine Fr.callV (y2 := 34) (na := 2) (as := [rf 58, rf (21 + 4 * tq4 + 1)]) (rest := []) (by decide +kernel : zi 100 37 = some (.invokevirtual 134, 3)) rfl (by decide +kernel) (by decide +kernel) rfl rfl (zok_V rfl (by decide) (by decide +kernel) (by decide +kernel) (zrecv_c (c := 57) (by decide) (by decide +kernel)) rfl (Nat.le_of_ble_eq_true rfl)) h (fun s5 h => ?_)
        refine Fr.aldn (c := 1) (by decide +kernel : zi 100 40 = some (.aload_n 0, 1)) rfl ⟨by omega, by omega⟩ ?_
        refine Fr.gR (c := 0) (c2 := 69) (ci := 7) (k := 8) 8 (by decide +kernel : zi 100 41 = some (.getfield 90, 3)) (by decide +kernel) (by decide +kernel) (by decide +kernel) (by decide) rfl (fun q => q (0, 8, 69) (by decide +kernel)) ?_
        refine Fr.ildn (by decide +kernel : zi 100 44 = some (.iload_n 1, 1)) rfl ?_
        refine Fr.callV (y2 := 75) (na := 2) (as := [rf 69, it v1]) (rest := []) (by decide +kernel : zi 100 45 = some (.invokevirtual 196, 3)) rfl (by decide +kernel) (by decide +kernel) rfl rfl (zok_V rfl (by decide) (by decide +kernel) (by decide +kernel) (zrecv_c (c := 68) (by decide) (by decide +kernel)) rfl (Nat.le_of_ble_eq_true rfl)) h (fun s6 h => ?_)
        refine Fr.aldn (c := 1) (by decide +kernel : zi 100 48 = some (.aload_n 0, 1)) rfl ⟨by omega, by omega⟩ ?_
        refine Fr.gR (c := 0) (c2 := 58) (ci := 7) (k := 6) 6 (by decide +kernel : zi 100 49 = some (.getfield 74, 3)) (by decide +kernel) (by decide +kernel) (by decide +kernel) (by decide) rfl (fun q => q (0, 6, 58) (by decide +kernel)) ?_
        refine Fr.aldn (c := 1) (by decide +kernel : zi 100 52 = some (.aload_n 0, 1)) rfl ⟨by omega, by omega⟩ ?_
        refine Fr.gR (c := 0) (c2 := 69) (ci := 7) (k := 8) 8 (by decide +kernel : zi 100 53 = some (.getfield 90, 3)) (by decide +kernel) (by decide +kernel) (by decide +kernel) (by decide) rfl (fun q => q (0, 8, 69) (by decide +kernel)) ?_
        refine Fr.gI (c := 68) (ci := 6) (k := 5) (t := 0) 5 (by decide +kernel : zi 100 56 = some (.getfield 212, 3)) (by decide +kernel) (by decide +kernel) (by decide +kernel) (by decide) rfl ?_
        refine Fr.ildn (by decide +kernel : zi 100 59 = some (.iload_n 2, 1)) rfl ?_
        refine Fr.callI (y2 := 44) (na := 3) (as := [rf 58, it (s6 68 5), it v2]) (rest := []) (by decide +kernel : zi 100 60 = some (.invokevirtual 214, 3)) rfl (by decide +kernel) (by decide +kernel) rfl rfl (zok_V rfl (by decide) (by decide +kernel) (by decide +kernel) (zrecv_c (c := 57) (by decide) (by decide +kernel)) rfl (Nat.le_of_ble_eq_true rfl)) h (fun r8 s7 h => ?_)
        exact Fr.retI (by decide +kernel : zi 100 63 = some (.ireturn, 1)) (by decide +kernel) h
      · have h := h.2 g9
        refine Fr.bipush (by decide +kernel : zi 100 26 = some (.bipush (-5), 2)) (by decide) ?_
        exact Fr.retI (by decide +kernel : zi 100 28 = some (.ireturn, 1)) (by decide +kernel) h
theorem e100 {xs : Nat → Int} {L : Nat} {d : Nat} {v1 : Int} {v2 : Int} {s : Pl} {Q : Option AV → Pl → Prop} (hd : 1 ≤ d) (k : Fr xs L T0 106 (d - 1) 100 0 [some (rf 1), some (it v1), some (it v2)] [] s Q) : Ev xs L T0 106 d 100 [rf 1, it v1, it v2] s Q := Ev.of (by decide) _ rfl hd k
-- 101 X7_all
theorem f101_0 {xs : Nat → Int} {L : Nat} {d : Nat} {v1 : Int} {s : Pl} {P : Int → Pl → Prop} (h : ((v1 < 0 → P (-2) s) ∧ (¬ (v1 < 0) → ((v1 ≤ 2 → ((v1 = 0 → Ev xs L T0 106 d 123 [rf 1] s (qv fun s1 => Ev xs L T0 106 d 61 [rf 65] s1 (qi fun r3 s2 => P r3 s2))) ∧ (¬ (v1 = 0) → Ev xs L T0 106 d 122 [rf 1] s (qr fun c9 s4 => ∃ tq5 : Nat, tq5 < 6 ∧ c9 = 21 + 4 * tq5 + 1 ∧ Ev xs L T0 106 d 124 [rf 1, rf (21 + 4 * tq5 + 1), it v1] s4 (qi fun r7 s6 => P r7 s6))))) ∧ (¬ (v1 ≤ 2) → P (-2) s))))) : Fr xs L T0 106 d 101 0 [some (rf 1), some (it v1)] [] s (qi P) := by
  refine Fr.ildn (by decide +kernel : zi 101 0 = some (.iload_n 1, 1)) rfl ?_
  refine Fr.if0 (q := 9) (by decide +kernel : zi 101 1 = some (.ifCond .lt 8, 3)) (by decide +kernel) (fun g9 => ?_) (fun g9 => ?_)
  · have h := h.1 g9
    refine Fr.bipush (by decide +kernel : zi 101 9 = some (.bipush (-2), 2)) (by decide) ?_
    exact Fr.retI (by decide +kernel : zi 101 11 = some (.ireturn, 1)) (by decide +kernel) h
  · have h := h.2 g9
    refine Fr.ildn (by decide +kernel : zi 101 4 = some (.iload_n 1, 1)) rfl ?_
    refine Fr.iconst (by decide +kernel : zi 101 5 = some (.iconst 2, 1)) (by decide) ?_
    refine Fr.if2 (q := 12) (by decide +kernel : zi 101 6 = some (.if_icmp .le 6, 3)) (by decide +kernel) (fun g9 => ?_) (fun g9 => ?_)
    · have h := h.1 g9
      refine Fr.ildn (by decide +kernel : zi 101 12 = some (.iload_n 1, 1)) rfl ?_
      refine Fr.if0 (q := 26) (by decide +kernel : zi 101 13 = some (.ifCond .eq 13, 3)) (by decide +kernel) (fun g9 => ?_) (fun g9 => ?_)
      · have h := h.1 g9
        refine Fr.aldn (c := 1) (by decide +kernel : zi 101 26 = some (.aload_n 0, 1)) rfl ⟨by omega, by omega⟩ ?_
        refine Fr.callV (y2 := 123) (na := 1) (as := [rf 1]) (rest := []) (by decide +kernel : zi 101 27 = some (.invokevirtual 221, 3)) rfl (by decide +kernel) (by decide +kernel) rfl rfl (zok_V rfl (by decide) (by decide +kernel) (by decide +kernel) (zrecv_c (c := 0) (by decide) (by decide +kernel)) rfl (Nat.le_of_ble_eq_true rfl)) h (fun s1 h => ?_)
        refine Fr.aldn (c := 1) (by decide +kernel : zi 101 30 = some (.aload_n 0, 1)) rfl ⟨by omega, by omega⟩ ?_
        refine Fr.gR (c := 0) (c2 := 65) (ci := 7) (k := 7) 7 (by decide +kernel : zi 101 31 = some (.getfield 83, 3)) (by decide +kernel) (by decide +kernel) (by decide +kernel) (by decide) rfl (fun q => q (0, 7, 65) (by decide +kernel)) ?_
        refine Fr.callI (y2 := 61) (na := 1) (as := [rf 65]) (rest := []) (by decide +kernel : zi 101 34 = some (.invokevirtual 224, 3)) rfl (by decide +kernel) (by decide +kernel) rfl rfl (zok_V rfl (by decide) (by decide +kernel) (by decide +kernel) (zrecv_c (c := 64) (by decide) (by decide +kernel)) rfl (Nat.le_of_ble_eq_true rfl)) h (fun r3 s2 h => ?_)
        exact Fr.retI (by decide +kernel : zi 101 37 = some (.ireturn, 1)) (by decide +kernel) h
      · have h := h.2 g9
        refine Fr.aldn (c := 1) (by decide +kernel : zi 101 16 = some (.aload_n 0, 1)) rfl ⟨by omega, by omega⟩ ?_
        refine Fr.aldn (c := 1) (by decide +kernel : zi 101 17 = some (.aload_n 0, 1)) rfl ⟨by omega, by omega⟩ ?_
        refine Fr.callR (y2 := 122) (na := 1) (as := [rf 1]) (rest := [rf 1]) (by decide +kernel : zi 101 18 = some (.invokevirtual 130, 3)) rfl (by decide +kernel) (by decide +kernel) rfl rfl (zok_V rfl (by decide) (by decide +kernel) (by decide +kernel) (zrecv_c (c := 0) (by decide) (by decide +kernel)) rfl (Nat.le_of_ble_eq_true rfl)) h (fun c9 s4 h => ?_)
        obtain ⟨tq5, htq5, g0, h⟩ := h
        subst g0
        refine Fr.ildn (by decide +kernel : zi 101 21 = some (.iload_n 1, 1)) rfl ?_
        refine Fr.callI (y2 := 124) (na := 3) (as := [rf 1, rf (21 + 4 * tq5 + 1), it v1]) (rest := []) (by decide +kernel : zi 101 22 = some (.invokevirtual 217, 3)) rfl (by decide +kernel) (by decide +kernel) rfl rfl (zok_V rfl (by decide) (by decide +kernel) (by decide +kernel) (zrecv_c (c := 0) (by decide) (by decide +kernel)) rfl (Nat.le_of_ble_eq_true rfl)) h (fun r7 s6 h => ?_)
        exact Fr.retI (by decide +kernel : zi 101 25 = some (.ireturn, 1)) (by decide +kernel) h
    · have h := h.2 g9
      refine Fr.bipush (by decide +kernel : zi 101 9 = some (.bipush (-2), 2)) (by decide) ?_
      exact Fr.retI (by decide +kernel : zi 101 11 = some (.ireturn, 1)) (by decide +kernel) h
theorem e101 {xs : Nat → Int} {L : Nat} {d : Nat} {v1 : Int} {s : Pl} {Q : Option AV → Pl → Prop} (hd : 1 ≤ d) (k : Fr xs L T0 106 (d - 1) 101 0 [some (rf 1), some (it v1)] [] s Q) : Ev xs L T0 106 d 101 [rf 1, it v1] s Q := Ev.of (by decide) _ rfl hd k
-- 102 X7_soonest
theorem f102_0 {xs : Nat → Int} {L : Nat} {d : Nat} {v1 : Int} {s : Pl} {P : Int → Pl → Prop} (h : Ev xs L T0 106 d 2 [rf 2, it v1] s (qi fun r2 s1 => ((¬ r2 = 0 → Ev xs L T0 106 d 123 [rf 1] s1 (qv fun s3 => Ev xs L T0 106 d 60 [rf 65, it (zshl 1 v1)] s3 (qi fun r5 s4 => P r5 s4))) ∧ (¬ (¬ r2 = 0) → P (-5) s1)))) : Fr xs L T0 106 d 102 0 [some (rf 1), some (it v1)] [] s (qi P) := by
  refine Fr.aldn (c := 1) (by decide +kernel : zi 102 0 = some (.aload_n 0, 1)) rfl ⟨by omega, by omega⟩ ?_
  refine Fr.gR (c := 0) (c2 := 2) (ci := 7) (k := 0) 0 (by decide +kernel : zi 102 1 = some (.getfield 10, 3)) (by decide +kernel) (by decide +kernel) (by decide +kernel) (by decide) rfl (fun q => q (0, 0, 2) (by decide +kernel)) ?_
  refine Fr.ildn (by decide +kernel : zi 102 4 = some (.iload_n 1, 1)) rfl ?_
  refine Fr.callI (y2 := 2) (na := 2) (as := [rf 2, it v1]) (rest := []) (by decide +kernel : zi 102 5 = some (.invokevirtual 137, 3)) rfl (by decide +kernel) (by decide +kernel) rfl rfl (zok_V rfl (by decide) (by decide +kernel) (by decide +kernel) (zrecv_c (c := 1) (by decide) (by decide +kernel)) rfl (Nat.le_of_ble_eq_true rfl)) h (fun r2 s1 h => ?_)
  refine Fr.if0 (q := 14) (by decide +kernel : zi 102 8 = some (.ifCond .ne 6, 3)) (by decide +kernel) (fun g9 => ?_) (fun g9 => ?_)
  · have h := h.1 g9
    refine Fr.aldn (c := 1) (by decide +kernel : zi 102 14 = some (.aload_n 0, 1)) rfl ⟨by omega, by omega⟩ ?_
    refine Fr.callV (y2 := 123) (na := 1) (as := [rf 1]) (rest := []) (by decide +kernel : zi 102 15 = some (.invokevirtual 221, 3)) rfl (by decide +kernel) (by decide +kernel) rfl rfl (zok_V rfl (by decide) (by decide +kernel) (by decide +kernel) (zrecv_c (c := 0) (by decide) (by decide +kernel)) rfl (Nat.le_of_ble_eq_true rfl)) h (fun s3 h => ?_)
    refine Fr.aldn (c := 1) (by decide +kernel : zi 102 18 = some (.aload_n 0, 1)) rfl ⟨by omega, by omega⟩ ?_
    refine Fr.gR (c := 0) (c2 := 65) (ci := 7) (k := 7) 7 (by decide +kernel : zi 102 19 = some (.getfield 83, 3)) (by decide +kernel) (by decide +kernel) (by decide +kernel) (by decide) rfl (fun q => q (0, 7, 65) (by decide +kernel)) ?_
    refine Fr.iconst (by decide +kernel : zi 102 22 = some (.iconst 1, 1)) (by decide) ?_
    refine Fr.ildn (by decide +kernel : zi 102 23 = some (.iload_n 1, 1)) rfl ?_
    refine Fr.ishl (by decide +kernel : zi 102 24 = some (.ishl, 1)) ?_
    refine Fr.callI (y2 := 60) (na := 2) (as := [rf 65, it (zshl 1 v1)]) (rest := []) (by decide +kernel : zi 102 25 = some (.invokevirtual 227, 3)) rfl (by decide +kernel) (by decide +kernel) rfl rfl (zok_V rfl (by decide) (by decide +kernel) (by decide +kernel) (zrecv_c (c := 64) (by decide) (by decide +kernel)) rfl (Nat.le_of_ble_eq_true rfl)) h (fun r5 s4 h => ?_)
    exact Fr.retI (by decide +kernel : zi 102 28 = some (.ireturn, 1)) (by decide +kernel) h
  · have h := h.2 g9
    refine Fr.bipush (by decide +kernel : zi 102 11 = some (.bipush (-5), 2)) (by decide) ?_
    exact Fr.retI (by decide +kernel : zi 102 13 = some (.ireturn, 1)) (by decide +kernel) h
theorem e102 {xs : Nat → Int} {L : Nat} {d : Nat} {v1 : Int} {s : Pl} {Q : Option AV → Pl → Prop} (hd : 1 ≤ d) (k : Fr xs L T0 106 (d - 1) 102 0 [some (rf 1), some (it v1)] [] s Q) : Ev xs L T0 106 d 102 [rf 1, it v1] s Q := Ev.of (by decide) _ rfl hd k
-- 103 X7_never
theorem f103_0 {xs : Nat → Int} {L : Nat} {d : Nat} {v1 : Int} {s : Pl} {P : Int → Pl → Prop} (h : ((v1 = 0 → Fr xs L T0 106 d 103 12 [some (rf 1), some (it v1)] [] s (qi P)) ∧ (¬ (v1 = 0) → ((v1 = 1 → Fr xs L T0 106 d 103 12 [some (rf 1), some (it v1)] [] s (qi P)) ∧ (¬ (v1 = 1) → P (-2) s))))) : Fr xs L T0 106 d 103 0 [some (rf 1), some (it v1)] [] s (qi P) := by
  refine Fr.ildn (by decide +kernel : zi 103 0 = some (.iload_n 1, 1)) rfl ?_
  refine Fr.if0 (q := 12) (by decide +kernel : zi 103 1 = some (.ifCond .eq 11, 3)) (by decide +kernel) (fun g9 => ?_) (fun g9 => ?_)
  · have h := h.1 g9
    exact h
  · have h := h.2 g9
    refine Fr.ildn (by decide +kernel : zi 103 4 = some (.iload_n 1, 1)) rfl ?_
    refine Fr.iconst (by decide +kernel : zi 103 5 = some (.iconst 1, 1)) (by decide) ?_
    refine Fr.if2 (q := 12) (by decide +kernel : zi 103 6 = some (.if_icmp .eq 6, 3)) (by decide +kernel) (fun g9 => ?_) (fun g9 => ?_)
    · have h := h.1 g9
      exact h
    · have h := h.2 g9
      refine Fr.bipush (by decide +kernel : zi 103 9 = some (.bipush (-2), 2)) (by decide) ?_
      exact Fr.retI (by decide +kernel : zi 103 11 = some (.ireturn, 1)) (by decide +kernel) h
theorem e103 {xs : Nat → Int} {L : Nat} {d : Nat} {v1 : Int} {s : Pl} {Q : Option AV → Pl → Prop} (hd : 1 ≤ d) (k : Fr xs L T0 106 (d - 1) 103 0 [some (rf 1), some (it v1)] [] s Q) : Ev xs L T0 106 d 103 [rf 1, it v1] s Q := Ev.of (by decide) _ rfl hd k
theorem f103_12 {xs : Nat → Int} {L : Nat} {d : Nat} {v1 : Int} {s : Pl} {P : Int → Pl → Prop} (h : Ev xs L T0 106 d 123 [rf 1] s (qv fun s1 => ((¬ v1 = 0 → P (s1 64 4) s1) ∧ (¬ (¬ v1 = 0) → Ev xs L T0 106 d 40 [rf 58] s1 (qi fun r3 s2 => Ev xs L T0 106 d 62 [rf 65] s2 (qi fun r5 s4 => P (zand r3 (zxor r5 (-1))) s4)))))) : Fr xs L T0 106 d 103 12 [some (rf 1), some (it v1)] [] s (qi P) := by
  refine Fr.aldn (c := 1) (by decide +kernel : zi 103 12 = some (.aload_n 0, 1)) rfl ⟨by omega, by omega⟩ ?_
  refine Fr.callV (y2 := 123) (na := 1) (as := [rf 1]) (rest := []) (by decide +kernel : zi 103 13 = some (.invokevirtual 221, 3)) rfl (by decide +kernel) (by decide +kernel) rfl rfl (zok_V rfl (by decide) (by decide +kernel) (by decide +kernel) (zrecv_c (c := 0) (by decide) (by decide +kernel)) rfl (Nat.le_of_ble_eq_true rfl)) h (fun s1 h => ?_)
  refine Fr.ildn (by decide +kernel : zi 103 16 = some (.iload_n 1, 1)) rfl ?_
  refine Fr.if0 (q := 40) (by decide +kernel : zi 103 17 = some (.ifCond .ne 23, 3)) (by decide +kernel) (fun g9 => ?_) (fun g9 => ?_)
  · have h := h.1 g9
    refine Fr.aldn (c := 1) (by decide +kernel : zi 103 40 = some (.aload_n 0, 1)) rfl ⟨by omega, by omega⟩ ?_
    refine Fr.gR (c := 0) (c2 := 65) (ci := 7) (k := 7) 7 (by decide +kernel : zi 103 41 = some (.getfield 83, 3)) (by decide +kernel) (by decide +kernel) (by decide +kernel) (by decide) rfl (fun q => q (0, 7, 65) (by decide +kernel)) ?_
    refine Fr.gI (c := 64) (ci := 4) (k := 4) (t := 0) 4 (by decide +kernel : zi 103 44 = some (.getfield 236, 3)) (by decide +kernel) (by decide +kernel) (by decide +kernel) (by decide) rfl ?_
    exact Fr.retI (by decide +kernel : zi 103 47 = some (.ireturn, 1)) (by decide +kernel) h
  · have h := h.2 g9
    refine Fr.aldn (c := 1) (by decide +kernel : zi 103 20 = some (.aload_n 0, 1)) rfl ⟨by omega, by omega⟩ ?_
    refine Fr.gR (c := 0) (c2 := 58) (ci := 7) (k := 6) 6 (by decide +kernel : zi 103 21 = some (.getfield 74, 3)) (by decide +kernel) (by decide +kernel) (by decide +kernel) (by decide) rfl (fun q => q (0, 6, 58) (by decide +kernel)) ?_
    refine Fr.callI (y2 := 40) (na := 1) (as := [rf 58]) (rest := []) (by decide +kernel : zi 103 24 = some (.invokevirtual 230, 3)) rfl (by decide +kernel) (by decide +kernel) rfl rfl (zok_V rfl (by decide) (by decide +kernel) (by decide +kernel) (zrecv_c (c := 57) (by decide) (by decide +kernel)) rfl (Nat.le_of_ble_eq_true rfl)) h (fun r3 s2 h => ?_)
    refine Fr.aldn (c := 1) (by decide +kernel : zi 103 27 = some (.aload_n 0, 1)) rfl ⟨by omega, by omega⟩ ?_
    refine Fr.gR (c := 0) (c2 := 65) (ci := 7) (k := 7) 7 (by decide +kernel : zi 103 28 = some (.getfield 83, 3)) (by decide +kernel) (by decide +kernel) (by decide +kernel) (by decide) rfl (fun q => q (0, 7, 65) (by decide +kernel)) ?_
    refine Fr.callI (y2 := 62) (na := 1) (as := [rf 65]) (rest := [it r3]) (by decide +kernel : zi 103 31 = some (.invokevirtual 233, 3)) rfl (by decide +kernel) (by decide +kernel) rfl rfl (zok_V rfl (by decide) (by decide +kernel) (by decide +kernel) (zrecv_c (c := 64) (by decide) (by decide +kernel)) rfl (Nat.le_of_ble_eq_true rfl)) h (fun r5 s4 h => ?_)
    refine Fr.iconst (by decide +kernel : zi 103 34 = some (.iconst (-1), 1)) (by decide) ?_
    refine Fr.ixor (by decide +kernel : zi 103 35 = some (.ixor, 1)) ?_
    refine Fr.iand (by decide +kernel : zi 103 36 = some (.iand, 1)) ?_
    refine Fr.goto (q := 47) (by decide +kernel : zi 103 37 = some (.goto 10, 3)) (by decide +kernel) ?_
    exact Fr.retI (by decide +kernel : zi 103 47 = some (.ireturn, 1)) (by decide +kernel) h
-- 104 X7_best
theorem f104_0 {xs : Nat → Int} {L : Nat} {d : Nat} {v1 : Int} {v2 : Int} {s : Pl} {P : Int → Pl → Prop} (h : ((v1 < 0 → P (-2) s) ∧ (¬ (v1 < 0) → ((400 < v1 → P (-2) s) ∧ (¬ (400 < v1) → ((v2 = 0 → Fr xs L T0 106 d 104 23 [some (rf 1), some (it v1), some (it v2)] [] s (qi P)) ∧ (¬ (v2 = 0) → ((v2 = 1 → Fr xs L T0 106 d 104 23 [some (rf 1), some (it v1), some (it v2)] [] s (qi P)) ∧ (¬ (v2 = 1) → P (-2) s))))))))) : Fr xs L T0 106 d 104 0 [some (rf 1), some (it v1), some (it v2)] [] s (qi P) := by
  refine Fr.ildn (by decide +kernel : zi 104 0 = some (.iload_n 1, 1)) rfl ?_
  refine Fr.if0 (q := 20) (by decide +kernel : zi 104 1 = some (.ifCond .lt 19, 3)) (by decide +kernel) (fun g9 => ?_) (fun g9 => ?_)
  · have h := h.1 g9
    refine Fr.bipush (by decide +kernel : zi 104 20 = some (.bipush (-2), 2)) (by decide) ?_
    exact Fr.retI (by decide +kernel : zi 104 22 = some (.ireturn, 1)) (by decide +kernel) h
  · have h := h.2 g9
    refine Fr.ildn (by decide +kernel : zi 104 4 = some (.iload_n 1, 1)) rfl ?_
    refine Fr.sipush (by decide +kernel : zi 104 5 = some (.sipush 400, 3)) (by decide) ?_
    refine Fr.if2 (q := 20) (by decide +kernel : zi 104 8 = some (.if_icmp .gt 12, 3)) (by decide +kernel) (fun g9 => ?_) (fun g9 => ?_)
    · have h := h.1 g9
      refine Fr.bipush (by decide +kernel : zi 104 20 = some (.bipush (-2), 2)) (by decide) ?_
      exact Fr.retI (by decide +kernel : zi 104 22 = some (.ireturn, 1)) (by decide +kernel) h
    · have h := h.2 g9
      refine Fr.ildn (by decide +kernel : zi 104 11 = some (.iload_n 2, 1)) rfl ?_
      refine Fr.if0 (q := 23) (by decide +kernel : zi 104 12 = some (.ifCond .eq 11, 3)) (by decide +kernel) (fun g9 => ?_) (fun g9 => ?_)
      · have h := h.1 g9
        exact h
      · have h := h.2 g9
        refine Fr.ildn (by decide +kernel : zi 104 15 = some (.iload_n 2, 1)) rfl ?_
        refine Fr.iconst (by decide +kernel : zi 104 16 = some (.iconst 1, 1)) (by decide) ?_
        refine Fr.if2 (q := 23) (by decide +kernel : zi 104 17 = some (.if_icmp .eq 6, 3)) (by decide +kernel) (fun g9 => ?_) (fun g9 => ?_)
        · have h := h.1 g9
          exact h
        · have h := h.2 g9
          refine Fr.bipush (by decide +kernel : zi 104 20 = some (.bipush (-2), 2)) (by decide) ?_
          exact Fr.retI (by decide +kernel : zi 104 22 = some (.ireturn, 1)) (by decide +kernel) h
theorem e104 {xs : Nat → Int} {L : Nat} {d : Nat} {v1 : Int} {v2 : Int} {s : Pl} {Q : Option AV → Pl → Prop} (hd : 1 ≤ d) (k : Fr xs L T0 106 (d - 1) 104 0 [some (rf 1), some (it v1), some (it v2)] [] s Q) : Ev xs L T0 106 d 104 [rf 1, it v1, it v2] s Q := Ev.of (by decide) _ rfl hd k
theorem f104_23 {xs : Nat → Int} {L : Nat} {d : Nat} {v1 : Int} {v2 : Int} {s : Pl} {P : Int → Pl → Prop} (h : Ev xs L T0 106 d 123 [rf 1] s (qv fun s1 => Ev xs L T0 106 d 63 [rf 65, it v1] s1 (qv fun s2 => ((¬ v2 = 0 → P (s2 64 7) s2) ∧ (¬ (¬ v2 = 0) → P (s2 64 6) s2))))) : Fr xs L T0 106 d 104 23 [some (rf 1), some (it v1), some (it v2)] [] s (qi P) := by
  refine Fr.aldn (c := 1) (by decide +kernel : zi 104 23 = some (.aload_n 0, 1)) rfl ⟨by omega, by omega⟩ ?_
  refine Fr.callV (y2 := 123) (na := 1) (as := [rf 1]) (rest := []) (by decide +kernel : zi 104 24 = some (.invokevirtual 221, 3)) rfl (by decide +kernel) (by decide +kernel) rfl rfl (zok_V rfl (by decide) (by decide +kernel) (by decide +kernel) (zrecv_c (c := 0) (by decide) (by decide +kernel)) rfl (Nat.le_of_ble_eq_true rfl)) h (fun s1 h => ?_)
  refine Fr.aldn (c := 1) (by decide +kernel : zi 104 27 = some (.aload_n 0, 1)) rfl ⟨by omega, by omega⟩ ?_
  refine Fr.gR (c := 0) (c2 := 65) (ci := 7) (k := 7) 7 (by decide +kernel : zi 104 28 = some (.getfield 83, 3)) (by decide +kernel) (by decide +kernel) (by decide +kernel) (by decide) rfl (fun q => q (0, 7, 65) (by decide +kernel)) ?_
  refine Fr.ildn (by decide +kernel : zi 104 31 = some (.iload_n 1, 1)) rfl ?_
  refine Fr.callV (y2 := 63) (na := 2) (as := [rf 65, it v1]) (rest := []) (by decide +kernel : zi 104 32 = some (.invokevirtual 237, 3)) rfl (by decide +kernel) (by decide +kernel) rfl rfl (zok_V rfl (by decide) (by decide +kernel) (by decide +kernel) (zrecv_c (c := 64) (by decide) (by decide +kernel)) rfl (Nat.le_of_ble_eq_true rfl)) h (fun s2 h => ?_)
  refine Fr.ildn (by decide +kernel : zi 104 35 = some (.iload_n 2, 1)) rfl ?_
  refine Fr.if0 (q := 49) (by decide +kernel : zi 104 36 = some (.ifCond .ne 13, 3)) (by decide +kernel) (fun g9 => ?_) (fun g9 => ?_)
  · have h := h.1 g9
    refine Fr.aldn (c := 1) (by decide +kernel : zi 104 49 = some (.aload_n 0, 1)) rfl ⟨by omega, by omega⟩ ?_
    refine Fr.gR (c := 0) (c2 := 65) (ci := 7) (k := 7) 7 (by decide +kernel : zi 104 50 = some (.getfield 83, 3)) (by decide +kernel) (by decide +kernel) (by decide +kernel) (by decide) rfl (fun q => q (0, 7, 65) (by decide +kernel)) ?_
    refine Fr.gI (c := 64) (ci := 4) (k := 7) (t := 0) 7 (by decide +kernel : zi 104 53 = some (.getfield 243, 3)) (by decide +kernel) (by decide +kernel) (by decide +kernel) (by decide) rfl ?_
    exact Fr.retI (by decide +kernel : zi 104 56 = some (.ireturn, 1)) (by decide +kernel) h
  · have h := h.2 g9
    refine Fr.aldn (c := 1) (by decide +kernel : zi 104 39 = some (.aload_n 0, 1)) rfl ⟨by omega, by omega⟩ ?_
    refine Fr.gR (c := 0) (c2 := 65) (ci := 7) (k := 7) 7 (by decide +kernel : zi 104 40 = some (.getfield 83, 3)) (by decide +kernel) (by decide +kernel) (by decide +kernel) (by decide) rfl (fun q => q (0, 7, 65) (by decide +kernel)) ?_
    refine Fr.gI (c := 64) (ci := 4) (k := 6) (t := 0) 6 (by decide +kernel : zi 104 43 = some (.getfield 240, 3)) (by decide +kernel) (by decide +kernel) (by decide +kernel) (by decide) rfl ?_
    refine Fr.goto (q := 56) (by decide +kernel : zi 104 46 = some (.goto 10, 3)) (by decide +kernel) ?_
    exact Fr.retI (by decide +kernel : zi 104 56 = some (.ireturn, 1)) (by decide +kernel) h
-- 105 X7_bound
theorem f105_0 {xs : Nat → Int} {L : Nat} {d : Nat}  {s : Pl} {P : Int → Pl → Prop} (h : Ev xs L T0 106 d 122 [rf 1] s (qr fun c9 s1 => ∃ tq2 : Nat, tq2 < 6 ∧ c9 = 21 + 4 * tq2 + 1 ∧ Ev xs L T0 106 d 34 [rf 58, rf (21 + 4 * tq2 + 1)] s1 (qv fun s3 => Ev xs L T0 106 d 52 [rf 58] s3 (qi fun r5 s4 => P r5 s4)))) : Fr xs L T0 106 d 105 0 [some (rf 1)] [] s (qi P) := by
  refine Fr.aldn (c := 1) (by decide +kernel : zi 105 0 = some (.aload_n 0, 1)) rfl ⟨by omega, by omega⟩ ?_
  refine Fr.gR (c := 0) (c2 := 58) (ci := 7) (k := 6) 6 (by decide +kernel : zi 105 1 = some (.getfield 74, 3)) (by decide +kernel) (by decide +kernel) (by decide +kernel) (by decide) rfl (fun q => q (0, 6, 58) (by decide +kernel)) ?_
  refine Fr.aldn (c := 1) (by decide +kernel : zi 105 4 = some (.aload_n 0, 1)) rfl ⟨by omega, by omega⟩ ?_
  refine Fr.callR (y2 := 122) (na := 1) (as := [rf 1]) (rest := [rf 58]) (by decide +kernel : zi 105 5 = some (.invokevirtual 130, 3)) rfl (by decide +kernel) (by decide +kernel) rfl rfl (zok_V rfl (by decide) (by decide +kernel) (by decide +kernel) (zrecv_c (c := 0) (by decide) (by decide +kernel)) rfl (Nat.le_of_ble_eq_true rfl)) h (fun c9 s1 h => ?_)
  obtain ⟨tq2, htq2, g0, h⟩ := h
  subst g0
  refine Fr.callV (y2 := 34) (na := 2) (as := [rf 58, rf (21 + 4 * tq2 + 1)]) (rest := []) (by decide +kernel : zi 105 8 = some (.invokevirtual 134, 3)) rfl (by decide +kernel) (by decide +kernel) rfl rfl (zok_V rfl (by decide) (by decide +kernel) (by decide +kernel) (zrecv_c (c := 57) (by decide) (by decide +kernel)) rfl (Nat.le_of_ble_eq_true rfl)) h (fun s3 h => ?_)
  refine Fr.aldn (c := 1) (by decide +kernel : zi 105 11 = some (.aload_n 0, 1)) rfl ⟨by omega, by omega⟩ ?_
  refine Fr.gR (c := 0) (c2 := 58) (ci := 7) (k := 6) 6 (by decide +kernel : zi 105 12 = some (.getfield 74, 3)) (by decide +kernel) (by decide +kernel) (by decide +kernel) (by decide) rfl (fun q => q (0, 6, 58) (by decide +kernel)) ?_
  refine Fr.callI (y2 := 52) (na := 1) (as := [rf 58]) (rest := []) (by decide +kernel : zi 105 15 = some (.invokevirtual 246, 3)) rfl (by decide +kernel) (by decide +kernel) rfl rfl (zok_V rfl (by decide) (by decide +kernel) (by decide +kernel) (zrecv_c (c := 57) (by decide) (by decide +kernel)) rfl (Nat.le_of_ble_eq_true rfl)) h (fun r5 s4 h => ?_)
  exact Fr.retI (by decide +kernel : zi 105 18 = some (.ireturn, 1)) (by decide +kernel) h
theorem e105 {xs : Nat → Int} {L : Nat} {d : Nat}  {s : Pl} {Q : Option AV → Pl → Prop} (hd : 1 ≤ d) (k : Fr xs L T0 106 (d - 1) 105 0 [some (rf 1)] [] s Q) : Ev xs L T0 106 d 105 [rf 1] s Q := Ev.of (by decide) _ rfl hd k
-- 106 X7_gap
theorem f106_0 {xs : Nat → Int} {L : Nat} {d : Nat}  {s : Pl} {P : Int → Pl → Prop} (h : Ev xs L T0 106 d 123 [rf 1] s (qv fun s1 => Ev xs L T0 106 d 61 [rf 65] s1 (qi fun r3 s2 => ((0 ≤ r3 → Ev xs L T0 106 d 52 [rf 58] s2 (qi fun r5 s4 => P (zw (r3 - r5)) s4)) ∧ (¬ (0 ≤ r3) → P (-1) s2))))) : Fr xs L T0 106 d 106 0 [some (rf 1), none] [] s (qi P) := by
  refine Fr.aldn (c := 1) (by decide +kernel : zi 106 0 = some (.aload_n 0, 1)) rfl ⟨by omega, by omega⟩ ?_
  refine Fr.callV (y2 := 123) (na := 1) (as := [rf 1]) (rest := []) (by decide +kernel : zi 106 1 = some (.invokevirtual 221, 3)) rfl (by decide +kernel) (by decide +kernel) rfl rfl (zok_V rfl (by decide) (by decide +kernel) (by decide +kernel) (zrecv_c (c := 0) (by decide) (by decide +kernel)) rfl (Nat.le_of_ble_eq_true rfl)) h (fun s1 h => ?_)
  refine Fr.aldn (c := 1) (by decide +kernel : zi 106 4 = some (.aload_n 0, 1)) rfl ⟨by omega, by omega⟩ ?_
  refine Fr.gR (c := 0) (c2 := 65) (ci := 7) (k := 7) 7 (by decide +kernel : zi 106 5 = some (.getfield 83, 3)) (by decide +kernel) (by decide +kernel) (by decide +kernel) (by decide) rfl (fun q => q (0, 7, 65) (by decide +kernel)) ?_
  refine Fr.callI (y2 := 61) (na := 1) (as := [rf 65]) (rest := []) (by decide +kernel : zi 106 8 = some (.invokevirtual 224, 3)) rfl (by decide +kernel) (by decide +kernel) rfl rfl (zok_V rfl (by decide) (by decide +kernel) (by decide +kernel) (zrecv_c (c := 64) (by decide) (by decide +kernel)) rfl (Nat.le_of_ble_eq_true rfl)) h (fun r3 s2 h => ?_)
  refine Fr.istn (lv2 := [some (rf 1), some (it r3)]) (by decide +kernel : zi 106 11 = some (.istore_n 1, 1)) (Nat.le_of_ble_eq_true rfl) rfl ?_
  refine Fr.ildn (by decide +kernel : zi 106 12 = some (.iload_n 1, 1)) rfl ?_
  refine Fr.if0 (q := 20) (by decide +kernel : zi 106 13 = some (.ifCond .ge 7, 3)) (by decide +kernel) (fun g9 => ?_) (fun g9 => ?_)
  · have h := h.1 g9
    refine Fr.ildn (by decide +kernel : zi 106 20 = some (.iload_n 1, 1)) rfl ?_
    refine Fr.aldn (c := 1) (by decide +kernel : zi 106 21 = some (.aload_n 0, 1)) rfl ⟨by omega, by omega⟩ ?_
    refine Fr.gR (c := 0) (c2 := 58) (ci := 7) (k := 6) 6 (by decide +kernel : zi 106 22 = some (.getfield 74, 3)) (by decide +kernel) (by decide +kernel) (by decide +kernel) (by decide) rfl (fun q => q (0, 6, 58) (by decide +kernel)) ?_
    refine Fr.callI (y2 := 52) (na := 1) (as := [rf 58]) (rest := [it r3]) (by decide +kernel : zi 106 25 = some (.invokevirtual 246, 3)) rfl (by decide +kernel) (by decide +kernel) rfl rfl (zok_V rfl (by decide) (by decide +kernel) (by decide +kernel) (zrecv_c (c := 57) (by decide) (by decide +kernel)) rfl (Nat.le_of_ble_eq_true rfl)) h (fun r5 s4 h => ?_)
    refine Fr.isub (by decide +kernel : zi 106 28 = some (.isub, 1)) ?_
    exact Fr.retI (by decide +kernel : zi 106 29 = some (.ireturn, 1)) (by decide +kernel) h
  · have h := h.2 g9
    refine Fr.iconst (by decide +kernel : zi 106 16 = some (.iconst (-1), 1)) (by decide) ?_
    refine Fr.goto (q := 29) (by decide +kernel : zi 106 17 = some (.goto 12, 3)) (by decide +kernel) ?_
    exact Fr.retI (by decide +kernel : zi 106 29 = some (.ireturn, 1)) (by decide +kernel) h
theorem e106 {xs : Nat → Int} {L : Nat} {d : Nat}  {s : Pl} {Q : Option AV → Pl → Prop} (hd : 1 ≤ d) (k : Fr xs L T0 106 (d - 1) 106 0 [some (rf 1), none] [] s Q) : Ev xs L T0 106 d 106 [rf 1] s Q := Ev.of (by decide) _ rfl hd k
-- 107 X7_way
theorem f107_0 {xs : Nat → Int} {L : Nat} {d : Nat} {v1 : Int} {v2 : Int} {s : Pl} {P : Int → Pl → Prop} (h : Ev xs L T0 106 d 126 [it v1] s (qi fun r2 s1 => ((r2 = 0 → P (-5) s1) ∧ (¬ (r2 = 0) → Ev xs L T0 106 d 126 [it v2] s1 (qi fun r4 s3 => ((¬ r4 = 0 → Ev xs L T0 106 d 122 [rf 1] s3 (qr fun c9 s5 => ∃ tq6 : Nat, tq6 < 6 ∧ c9 = 21 + 4 * tq6 + 1 ∧ Ev xs L T0 106 d 34 [rf 58, rf (21 + 4 * tq6 + 1)] s5 (qv fun s7 => Ev xs L T0 106 d 51 [rf 58] s7 (qv fun s8 => Ev xs L T0 106 d 245 [rf 58, it v1, it v2] s8 (qi fun r10 s9 => P r10 s9))))) ∧ (¬ (¬ r4 = 0) → P (-5) s3))))))) : Fr xs L T0 106 d 107 0 [some (rf 1), some (it v1), some (it v2)] [] s (qi P) := by
  refine Fr.ildn (by decide +kernel : zi 107 0 = some (.iload_n 1, 1)) rfl ?_
  refine Fr.callI (y2 := 126) (na := 1) (as := [it v1]) (rest := []) (by decide +kernel : zi 107 1 = some (.invokestatic 94, 3)) rfl (by decide +kernel) (by decide +kernel) rfl rfl (zok_S rfl (by decide) (by decide +kernel) rfl (Nat.le_of_ble_eq_true rfl)) h (fun r2 s1 h => ?_)
  refine Fr.if0 (q := 14) (by decide +kernel : zi 107 4 = some (.ifCond .eq 10, 3)) (by decide +kernel) (fun g9 => ?_) (fun g9 => ?_)
  · have h := h.1 g9
    refine Fr.bipush (by decide +kernel : zi 107 14 = some (.bipush (-5), 2)) (by decide) ?_
    exact Fr.retI (by decide +kernel : zi 107 16 = some (.ireturn, 1)) (by decide +kernel) h
  · have h := h.2 g9
    refine Fr.ildn (by decide +kernel : zi 107 7 = some (.iload_n 2, 1)) rfl ?_
    refine Fr.callI (y2 := 126) (na := 1) (as := [it v2]) (rest := []) (by decide +kernel : zi 107 8 = some (.invokestatic 94, 3)) rfl (by decide +kernel) (by decide +kernel) rfl rfl (zok_S rfl (by decide) (by decide +kernel) rfl (Nat.le_of_ble_eq_true rfl)) h (fun r4 s3 h => ?_)
    refine Fr.if0 (q := 17) (by decide +kernel : zi 107 11 = some (.ifCond .ne 6, 3)) (by decide +kernel) (fun g9 => ?_) (fun g9 => ?_)
    · have h := h.1 g9
      refine Fr.aldn (c := 1) (by decide +kernel : zi 107 17 = some (.aload_n 0, 1)) rfl ⟨by omega, by omega⟩ ?_
      refine Fr.gR (c := 0) (c2 := 58) (ci := 7) (k := 6) 6 (by decide +kernel : zi 107 18 = some (.getfield 74, 3)) (by decide +kernel) (by decide +kernel) (by decide +kernel) (by decide) rfl (fun q => q (0, 6, 58) (by decide +kernel)) ?_
      refine Fr.aldn (c := 1) (by decide +kernel : zi 107 21 = some (.aload_n 0, 1)) rfl ⟨by omega, by omega⟩ ?_
      refine Fr.callR (y2 := 122) (na := 1) (as := [rf 1]) (rest := [rf 58]) (by decide +kernel : zi 107 22 = some (.invokevirtual 130, 3)) rfl (by decide +kernel) (by decide +kernel) rfl rfl (zok_V rfl (by decide) (by decide +kernel) (by decide +kernel) (zrecv_c (c := 0) (by decide) (by decide +kernel)) rfl (Nat.le_of_ble_eq_true rfl)) h (fun c9 s5 h => ?_)
      obtain ⟨tq6, htq6, g0, h⟩ := h
      subst g0
      refine Fr.callV (y2 := 34) (na := 2) (as := [rf 58, rf (21 + 4 * tq6 + 1)]) (rest := []) (by decide +kernel : zi 107 25 = some (.invokevirtual 134, 3)) rfl (by decide +kernel) (by decide +kernel) rfl rfl (zok_V rfl (by decide) (by decide +kernel) (by decide +kernel) (zrecv_c (c := 57) (by decide) (by decide +kernel)) rfl (Nat.le_of_ble_eq_true rfl)) h (fun s7 h => ?_)
      refine Fr.aldn (c := 1) (by decide +kernel : zi 107 28 = some (.aload_n 0, 1)) rfl ⟨by omega, by omega⟩ ?_
      refine Fr.gR (c := 0) (c2 := 58) (ci := 7) (k := 6) 6 (by decide +kernel : zi 107 29 = some (.getfield 74, 3)) (by decide +kernel) (by decide +kernel) (by decide +kernel) (by decide) rfl (fun q => q (0, 6, 58) (by decide +kernel)) ?_
      refine Fr.callV (y2 := 51) (na := 1) (as := [rf 58]) (rest := []) (by decide +kernel : zi 107 32 = some (.invokevirtual 249, 3)) rfl (by decide +kernel) (by decide +kernel) rfl rfl (zok_V rfl (by decide) (by decide +kernel) (by decide +kernel) (zrecv_c (c := 57) (by decide) (by decide +kernel)) rfl (Nat.le_of_ble_eq_true rfl)) h (fun s8 h => ?_)
      refine Fr.aldn (c := 1) (by decide +kernel : zi 107 35 = some (.aload_n 0, 1)) rfl ⟨by omega, by omega⟩ ?_
      refine Fr.gR (c := 0) (c2 := 58) (ci := 7) (k := 6) 6 (by decide +kernel : zi 107 36 = some (.getfield 74, 3)) (by decide +kernel) (by decide +kernel) (by decide +kernel) (by decide) rfl (fun q => q (0, 6, 58) (by decide +kernel)) ?_
      refine Fr.ildn (by decide +kernel : zi 107 39 = some (.iload_n 1, 1)) rfl ?_
      refine Fr.ildn (by decide +kernel : zi 107 40 = some (.iload_n 2, 1)) rfl ?_
      refine Fr.callI (y2 := 245) (na := 3) (as := [rf 58, it v1, it v2]) (rest := []) (by decide +kernel : zi 107 41 = some (.invokevirtual 252, 3)) rfl (by decide +kernel) (by decide +kernel) rfl rfl (zok_V rfl (by decide) (by decide +kernel) (by decide +kernel) (zrecv_c (c := 57) (by decide) (by decide +kernel)) rfl (Nat.le_of_ble_eq_true rfl)) h (fun r10 s9 h => ?_)
      exact Fr.retI (by decide +kernel : zi 107 44 = some (.ireturn, 1)) (by decide +kernel) h
    · have h := h.2 g9
      refine Fr.bipush (by decide +kernel : zi 107 14 = some (.bipush (-5), 2)) (by decide) ?_
      exact Fr.retI (by decide +kernel : zi 107 16 = some (.ireturn, 1)) (by decide +kernel) h
theorem e107 {xs : Nat → Int} {L : Nat} {d : Nat} {v1 : Int} {v2 : Int} {s : Pl} {Q : Option AV → Pl → Prop} (hd : 1 ≤ d) (k : Fr xs L T0 106 (d - 1) 107 0 [some (rf 1), some (it v1), some (it v2)] [] s Q) : Ev xs L T0 106 d 107 [rf 1, it v1, it v2] s Q := Ev.of (by decide) _ rfl hd k
-- 108 X7_help
theorem f108_0 {xs : Nat → Int} {L : Nat} {d : Nat} {v1 : Int} {s : Pl} {P : Int → Pl → Prop} (h : ((v1 = 0 → Fr xs L T0 106 d 108 12 [some (rf 1), some (it v1), none, none] [] s (qi P)) ∧ (¬ (v1 = 0) → ((v1 = 1 → Fr xs L T0 106 d 108 12 [some (rf 1), some (it v1), none, none] [] s (qi P)) ∧ (¬ (v1 = 1) → P (-2) s))))) : Fr xs L T0 106 d 108 0 [some (rf 1), some (it v1), none, none] [] s (qi P) := by
  refine Fr.ildn (by decide +kernel : zi 108 0 = some (.iload_n 1, 1)) rfl ?_
  refine Fr.if0 (q := 12) (by decide +kernel : zi 108 1 = some (.ifCond .eq 11, 3)) (by decide +kernel) (fun g9 => ?_) (fun g9 => ?_)
  · have h := h.1 g9
    exact h
  · have h := h.2 g9
    refine Fr.ildn (by decide +kernel : zi 108 4 = some (.iload_n 1, 1)) rfl ?_
    refine Fr.iconst (by decide +kernel : zi 108 5 = some (.iconst 1, 1)) (by decide) ?_
    refine Fr.if2 (q := 12) (by decide +kernel : zi 108 6 = some (.if_icmp .eq 6, 3)) (by decide +kernel) (fun g9 => ?_) (fun g9 => ?_)
    · have h := h.1 g9
      exact h
    · have h := h.2 g9
      refine Fr.bipush (by decide +kernel : zi 108 9 = some (.bipush (-2), 2)) (by decide) ?_
      exact Fr.retI (by decide +kernel : zi 108 11 = some (.ireturn, 1)) (by decide +kernel) h
theorem e108 {xs : Nat → Int} {L : Nat} {d : Nat} {v1 : Int} {s : Pl} {Q : Option AV → Pl → Prop} (hd : 1 ≤ d) (k : Fr xs L T0 106 (d - 1) 108 0 [some (rf 1), some (it v1), none, none] [] s Q) : Ev xs L T0 106 d 108 [rf 1, it v1] s Q := Ev.of (by decide) _ rfl hd k
theorem f108_12 {xs : Nat → Int} {L : Nat} {d : Nat} {v1 : Int} {s : Pl} {P : Int → Pl → Prop} (h : ((s 1 1 < 6 → Ev xs L T0 106 d 123 [rf 1] s (qv fun s1 => Ev xs L T0 106 d 61 [rf 65] s1 (qi fun r3 s2 => ((r3 < 0 → Fr xs L T0 106 d 108 45 [some (rf 1), some (it v1), some (it 0), none] [] s2 (qi P)) ∧ (¬ (r3 < 0) → P (-1) s2))))) ∧ (¬ (s 1 1 < 6) → P (-3) s))) : Fr xs L T0 106 d 108 12 [some (rf 1), some (it v1), none, none] [] s (qi P) := by
  refine Fr.aldn (c := 1) (by decide +kernel : zi 108 12 = some (.aload_n 0, 1)) rfl ⟨by omega, by omega⟩ ?_
  refine Fr.gR (c := 0) (c2 := 2) (ci := 7) (k := 0) 0 (by decide +kernel : zi 108 13 = some (.getfield 10, 3)) (by decide +kernel) (by decide +kernel) (by decide +kernel) (by decide) rfl (fun q => q (0, 0, 2) (by decide +kernel)) ?_
  refine Fr.gI (c := 1) (ci := 0) (k := 1) (t := 0) 1 (by decide +kernel : zi 108 16 = some (.getfield 109, 3)) (by decide +kernel) (by decide +kernel) (by decide +kernel) (by decide) rfl ?_
  refine Fr.bipush (by decide +kernel : zi 108 19 = some (.bipush 6, 2)) (by decide) ?_
  refine Fr.if2 (q := 27) (by decide +kernel : zi 108 21 = some (.if_icmp .lt 6, 3)) (by decide +kernel) (fun g9 => ?_) (fun g9 => ?_)
  · have h := h.1 g9
    refine Fr.aldn (c := 1) (by decide +kernel : zi 108 27 = some (.aload_n 0, 1)) rfl ⟨by omega, by omega⟩ ?_
    refine Fr.callV (y2 := 123) (na := 1) (as := [rf 1]) (rest := []) (by decide +kernel : zi 108 28 = some (.invokevirtual 221, 3)) rfl (by decide +kernel) (by decide +kernel) rfl rfl (zok_V rfl (by decide) (by decide +kernel) (by decide +kernel) (zrecv_c (c := 0) (by decide) (by decide +kernel)) rfl (Nat.le_of_ble_eq_true rfl)) h (fun s1 h => ?_)
    refine Fr.aldn (c := 1) (by decide +kernel : zi 108 31 = some (.aload_n 0, 1)) rfl ⟨by omega, by omega⟩ ?_
    refine Fr.gR (c := 0) (c2 := 65) (ci := 7) (k := 7) 7 (by decide +kernel : zi 108 32 = some (.getfield 83, 3)) (by decide +kernel) (by decide +kernel) (by decide +kernel) (by decide) rfl (fun q => q (0, 7, 65) (by decide +kernel)) ?_
    refine Fr.callI (y2 := 61) (na := 1) (as := [rf 65]) (rest := []) (by decide +kernel : zi 108 35 = some (.invokevirtual 224, 3)) rfl (by decide +kernel) (by decide +kernel) rfl rfl (zok_V rfl (by decide) (by decide +kernel) (by decide +kernel) (zrecv_c (c := 64) (by decide) (by decide +kernel)) rfl (Nat.le_of_ble_eq_true rfl)) h (fun r3 s2 h => ?_)
    refine Fr.if0 (q := 43) (by decide +kernel : zi 108 38 = some (.ifCond .lt 5, 3)) (by decide +kernel) (fun g9 => ?_) (fun g9 => ?_)
    · have h := h.1 g9
      refine Fr.iconst (by decide +kernel : zi 108 43 = some (.iconst 0, 1)) (by decide) ?_
      refine Fr.istn (lv2 := [some (rf 1), some (it v1), some (it 0), none]) (by decide +kernel : zi 108 44 = some (.istore_n 2, 1)) (Nat.le_of_ble_eq_true rfl) rfl ?_
      exact h
    · have h := h.2 g9
      refine Fr.iconst (by decide +kernel : zi 108 41 = some (.iconst (-1), 1)) (by decide) ?_
      exact Fr.retI (by decide +kernel : zi 108 42 = some (.ireturn, 1)) (by decide +kernel) h
  · have h := h.2 g9
    refine Fr.bipush (by decide +kernel : zi 108 24 = some (.bipush (-3), 2)) (by decide) ?_
    exact Fr.retI (by decide +kernel : zi 108 26 = some (.ireturn, 1)) (by decide +kernel) h
theorem f108_45 {xs : Nat → Int} {L : Nat} {d : Nat} {v1 : Int} {v2 : Int} {w3 : Option AV} {s : Pl} {P : Int → Pl → Prop} (h : ((4 ≤ v2 → P (-1) s) ∧ (¬ (4 ≤ v2) → Ev xs L T0 106 d 3 [rf 2, it 3, it (zw (10 * v2)), it 0, it 0] s (qv fun s1 => Ev xs L T0 106 d 122 [rf 1] s1 (qr fun c9 s2 => ∃ tq3 : Nat, tq3 < 6 ∧ c9 = 21 + 4 * tq3 + 1 ∧ Ev xs L T0 106 d 124 [rf 1, rf (21 + 4 * tq3 + 1), it 0] s2 (qi fun r5 s4 => ((r5 < 0 → Fr xs L T0 106 d 108 45 [some (rf 1), some (it v1), some (it (zw (v2 + 1))), some (it r5)] [] (zup s4 1 1 (zw ((s4 1 1) - 1))) (qi P)) ∧ (¬ (r5 < 0) → ((¬ v1 = 0 → P r5 (zup s4 1 1 (zw ((s4 1 1) - 1)))) ∧ (¬ (¬ v1 = 0) → P v2 (zup s4 1 1 (zw ((s4 1 1) - 1))))))))))))) : Fr xs L T0 106 d 108 45 [some (rf 1), some (it v1), some (it v2), w3] [] s (qi P) := by
  refine Fr.ildn (by decide +kernel : zi 108 45 = some (.iload_n 2, 1)) rfl ?_
  refine Fr.iconst (by decide +kernel : zi 108 46 = some (.iconst 4, 1)) (by decide) ?_
  refine Fr.if2 (q := 107) (by decide +kernel : zi 108 47 = some (.if_icmp .ge 60, 3)) (by decide +kernel) (fun g9 => ?_) (fun g9 => ?_)
  · have h := h.1 g9
    refine Fr.iconst (by decide +kernel : zi 108 107 = some (.iconst (-1), 1)) (by decide) ?_
    exact Fr.retI (by decide +kernel : zi 108 108 = some (.ireturn, 1)) (by decide +kernel) h
  · have h := h.2 g9
    refine Fr.aldn (c := 1) (by decide +kernel : zi 108 50 = some (.aload_n 0, 1)) rfl ⟨by omega, by omega⟩ ?_
    refine Fr.gR (c := 0) (c2 := 2) (ci := 7) (k := 0) 0 (by decide +kernel : zi 108 51 = some (.getfield 10, 3)) (by decide +kernel) (by decide +kernel) (by decide +kernel) (by decide) rfl (fun q => q (0, 0, 2) (by decide +kernel)) ?_
    refine Fr.iconst (by decide +kernel : zi 108 54 = some (.iconst 3, 1)) (by decide) ?_
    refine Fr.bipush (by decide +kernel : zi 108 55 = some (.bipush 10, 2)) (by decide) ?_
    refine Fr.ildn (by decide +kernel : zi 108 57 = some (.iload_n 2, 1)) rfl ?_
    refine Fr.imul (by decide +kernel : zi 108 58 = some (.imul, 1)) ?_
    refine Fr.iconst (by decide +kernel : zi 108 59 = some (.iconst 0, 1)) (by decide) ?_
    refine Fr.iconst (by decide +kernel : zi 108 60 = some (.iconst 0, 1)) (by decide) ?_
    refine Fr.callV (y2 := 3) (na := 5) (as := [rf 2, it 3, it (zw (10 * v2)), it 0, it 0]) (rest := []) (by decide +kernel : zi 108 61 = some (.invokevirtual 151, 3)) rfl (by decide +kernel) (by decide +kernel) rfl rfl (zok_V rfl (by decide) (by decide +kernel) (by decide +kernel) (zrecv_c (c := 1) (by decide) (by decide +kernel)) rfl (Nat.le_of_ble_eq_true rfl)) h (fun s1 h => ?_)
    refine Fr.aldn (c := 1) (by decide +kernel : zi 108 64 = some (.aload_n 0, 1)) rfl ⟨by omega, by omega⟩ ?_
    refine Fr.aldn (c := 1) (by decide +kernel : zi 108 65 = some (.aload_n 0, 1)) rfl ⟨by omega, by omega⟩ ?_
    refine Fr.callR (y2 := 122) (na := 1) (as := [rf 1]) (rest := [rf 1]) (by decide +kernel : zi 108 66 = some (.invokevirtual 130, 3)) rfl (by decide +kernel) (by decide +kernel) rfl rfl (zok_V rfl (by decide) (by decide +kernel) (by decide +kernel) (zrecv_c (c := 0) (by decide) (by decide +kernel)) rfl (Nat.le_of_ble_eq_true rfl)) h (fun c9 s2 h => ?_)
    obtain ⟨tq3, htq3, g0, h⟩ := h
    subst g0
    refine Fr.iconst (by decide +kernel : zi 108 69 = some (.iconst 0, 1)) (by decide) ?_
    refine Fr.callI (y2 := 124) (na := 3) (as := [rf 1, rf (21 + 4 * tq3 + 1), it 0]) (rest := []) (by decide +kernel : zi 108 70 = some (.invokevirtual 217, 3)) rfl (by decide +kernel) (by decide +kernel) rfl rfl (zok_V rfl (by decide) (by decide +kernel) (by decide +kernel) (zrecv_c (c := 0) (by decide) (by decide +kernel)) rfl (Nat.le_of_ble_eq_true rfl)) h (fun r5 s4 h => ?_)
    refine Fr.istn (lv2 := [some (rf 1), some (it v1), some (it v2), some (it r5)]) (by decide +kernel : zi 108 73 = some (.istore_n 3, 1)) (Nat.le_of_ble_eq_true rfl) rfl ?_
    refine Fr.aldn (c := 1) (by decide +kernel : zi 108 74 = some (.aload_n 0, 1)) rfl ⟨by omega, by omega⟩ ?_
    refine Fr.gR (c := 0) (c2 := 2) (ci := 7) (k := 0) 0 (by decide +kernel : zi 108 75 = some (.getfield 10, 3)) (by decide +kernel) (by decide +kernel) (by decide +kernel) (by decide) rfl (fun q => q (0, 0, 2) (by decide +kernel)) ?_
    refine Fr.dup (by decide +kernel : zi 108 78 = some (.dup, 1)) rfl ?_
    refine Fr.gI (c := 1) (ci := 0) (k := 1) (t := 0) 1 (by decide +kernel : zi 108 79 = some (.getfield 109, 3)) (by decide +kernel) (by decide +kernel) (by decide +kernel) (by decide) rfl ?_
    refine Fr.iconst (by decide +kernel : zi 108 82 = some (.iconst 1, 1)) (by decide) ?_
    refine Fr.isub (by decide +kernel : zi 108 83 = some (.isub, 1)) ?_
    refine Fr.pI (c := 1) (ci := 0) (k := 1) 1 (by decide +kernel : zi 108 84 = some (.putfield 109, 3)) (by decide +kernel) (by decide +kernel) (by decide +kernel) (by decide) rfl ?_
    refine Fr.ildn (by decide +kernel : zi 108 87 = some (.iload_n 3, 1)) rfl ?_
    refine Fr.if0 (q := 101) (by decide +kernel : zi 108 88 = some (.ifCond .lt 13, 3)) (by decide +kernel) (fun g9 => ?_) (fun g9 => ?_)
    · have h := h.1 g9
      refine Fr.iinc (lv2 := [some (rf 1), some (it v1), some (it (zw (v2 + 1))), some (it r5)]) (by decide +kernel : zi 108 101 = some (.iinc 2 1, 3)) (Nat.le_of_ble_eq_true rfl) rfl rfl ?_
      refine Fr.goto (q := 45) (by decide +kernel : zi 108 104 = some (.goto (-59), 3)) (by decide +kernel) ?_
      exact h
    · have h := h.2 g9
      refine Fr.ildn (by decide +kernel : zi 108 91 = some (.iload_n 1, 1)) rfl ?_
      refine Fr.if0 (q := 99) (by decide +kernel : zi 108 92 = some (.ifCond .ne 7, 3)) (by decide +kernel) (fun g9 => ?_) (fun g9 => ?_)
      · have h := h.1 g9
        refine Fr.ildn (by decide +kernel : zi 108 99 = some (.iload_n 3, 1)) rfl ?_
        exact Fr.retI (by decide +kernel : zi 108 100 = some (.ireturn, 1)) (by decide +kernel) h
      · have h := h.2 g9
        refine Fr.ildn (by decide +kernel : zi 108 95 = some (.iload_n 2, 1)) rfl ?_
        refine Fr.goto (q := 100) (by decide +kernel : zi 108 96 = some (.goto 4, 3)) (by decide +kernel) ?_
        exact Fr.retI (by decide +kernel : zi 108 100 = some (.ireturn, 1)) (by decide +kernel) h
-- 109 X7_laws
theorem f109_0 {xs : Nat → Int} {L : Nat} {d : Nat}  {s : Pl} {P : Int → Pl → Prop} (h : Fr xs L T0 106 d 109 4 [some (rf 1), some (it 0), some (it 0)] [] s (qi P)) : Fr xs L T0 106 d 109 0 [some (rf 1), none, none] [] s (qi P) := by
  refine Fr.iconst (by decide +kernel : zi 109 0 = some (.iconst 0, 1)) (by decide) ?_
  refine Fr.istn (lv2 := [some (rf 1), some (it 0), none]) (by decide +kernel : zi 109 1 = some (.istore_n 1, 1)) (Nat.le_of_ble_eq_true rfl) rfl ?_
  refine Fr.iconst (by decide +kernel : zi 109 2 = some (.iconst 0, 1)) (by decide) ?_
  refine Fr.istn (lv2 := [some (rf 1), some (it 0), some (it 0)]) (by decide +kernel : zi 109 3 = some (.istore_n 2, 1)) (Nat.le_of_ble_eq_true rfl) rfl ?_
  exact h
theorem e109 {xs : Nat → Int} {L : Nat} {d : Nat}  {s : Pl} {Q : Option AV → Pl → Prop} (hd : 1 ≤ d) (k : Fr xs L T0 106 (d - 1) 109 0 [some (rf 1), none, none] [] s Q) : Ev xs L T0 106 d 109 [rf 1] s Q := Ev.of (by decide) _ rfl hd k
theorem f109_4 {xs : Nat → Int} {L : Nat} {d : Nat} {v1 : Int} {v2 : Int} {s : Pl} {P : Int → Pl → Prop} (h : ((s 0 4 ≤ v2 → P v1 s) ∧ (¬ (s 0 4 ≤ v2) → ((6 ≤ v2 → P v1 s) ∧ (¬ (6 ≤ v2) → (0 ≤ v2 ∧ v2 < 6) ∧ ∀ tq1 : Nat, (tq1 : Int) = v2 → tq1 < 6 → Ev xs L T0 106 d 124 [rf 1, rf (21 + 4 * tq1 + 1), it 0] s (qi fun r3 s2 => ((r3 < 0 → Fr xs L T0 106 d 109 41 [some (rf 1), some (it v1), some (it v2)] [] s2 (qi P)) ∧ (¬ (r3 < 0) → Fr xs L T0 106 d 109 41 [some (rf 1), some (it (zor v1 (zshl 1 v2))), some (it v2)] [] s2 (qi P))))))))) : Fr xs L T0 106 d 109 4 [some (rf 1), some (it v1), some (it v2)] [] s (qi P) := by
  refine Fr.ildn (by decide +kernel : zi 109 4 = some (.iload_n 2, 1)) rfl ?_
  refine Fr.aldn (c := 1) (by decide +kernel : zi 109 5 = some (.aload_n 0, 1)) rfl ⟨by omega, by omega⟩ ?_
  refine Fr.gI (c := 0) (ci := 7) (k := 4) (t := 0) 4 (by decide +kernel : zi 109 6 = some (.getfield 66, 3)) (by decide +kernel) (by decide +kernel) (by decide +kernel) (by decide) rfl ?_
  refine Fr.if2 (q := 47) (by decide +kernel : zi 109 9 = some (.if_icmp .ge 38, 3)) (by decide +kernel) (fun g9 => ?_) (fun g9 => ?_)
  · have h := h.1 g9
    refine Fr.ildn (by decide +kernel : zi 109 47 = some (.iload_n 1, 1)) rfl ?_
    exact Fr.retI (by decide +kernel : zi 109 48 = some (.ireturn, 1)) (by decide +kernel) h
  · have h := h.2 g9
    refine Fr.ildn (by decide +kernel : zi 109 12 = some (.iload_n 2, 1)) rfl ?_
    refine Fr.aldn (c := 1) (by decide +kernel : zi 109 13 = some (.aload_n 0, 1)) rfl ⟨by omega, by omega⟩ ?_
    refine Fr.gR (c := 0) (c2 := 20) (ci := 7) (k := 3) 3 (by decide +kernel : zi 109 14 = some (.getfield 21, 3)) (by decide +kernel) (by decide +kernel) (by decide +kernel) (by decide) rfl (fun q => q (0, 3, 20) (by decide +kernel)) ?_
    refine Fr.alen (c := 19) (N := 6) (K := 23) (by decide +kernel : zi 109 17 = some (.arraylength, 1)) (by decide +kernel) (by decide) (by decide) ?_
    refine Fr.if2 (q := 47) (by decide +kernel : zi 109 18 = some (.if_icmp .ge 29, 3)) (by decide +kernel) (fun g9 => ?_) (fun g9 => ?_)
    · have h := h.1 g9
      refine Fr.ildn (by decide +kernel : zi 109 47 = some (.iload_n 1, 1)) rfl ?_
      exact Fr.retI (by decide +kernel : zi 109 48 = some (.ireturn, 1)) (by decide +kernel) h
    · have h := h.2 g9
      refine Fr.aldn (c := 1) (by decide +kernel : zi 109 21 = some (.aload_n 0, 1)) rfl ⟨by omega, by omega⟩ ?_
      refine Fr.aldn (c := 1) (by decide +kernel : zi 109 22 = some (.aload_n 0, 1)) rfl ⟨by omega, by omega⟩ ?_
      refine Fr.gR (c := 0) (c2 := 20) (ci := 7) (k := 3) 3 (by decide +kernel : zi 109 23 = some (.getfield 21, 3)) (by decide +kernel) (by decide +kernel) (by decide +kernel) (by decide) rfl (fun q => q (0, 3, 20) (by decide +kernel)) ?_
      refine Fr.ildn (by decide +kernel : zi 109 26 = some (.iload_n 2, 1)) rfl ?_
      obtain ⟨⟨g0, g1⟩, h⟩ := h
      obtain ⟨tq1, etq1⟩ : ∃ q : Nat, (q : Int) = v2 := ⟨(v2).toNat, by omega⟩
      have htq1 : tq1 < 6 := by omega
      have h := h tq1 etq1 htq1
      refine Fr.aald (c := 19) (c2 := (21 + 4 * tq1 + 1)) (N := 6) (K := 23) (by decide +kernel : zi 109 27 = some (.aaload, 1)) (by decide +kernel) (by decide) (by decide) g0 g1 (fun q => by rw [← etq1]; exact q _ (KR0.2.1 _ (zlaw_T3 _ htq1))) ?_
      refine Fr.iconst (by decide +kernel : zi 109 28 = some (.iconst 0, 1)) (by decide) ?_
      refine Fr.callI (y2 := 124) (na := 3) (as := [rf 1, rf (21 + 4 * tq1 + 1), it 0]) (rest := []) (by decide +kernel : zi 109 29 = some (.invokevirtual 217, 3)) rfl (by decide +kernel) (by decide +kernel) rfl rfl (zok_V rfl (by decide) (by decide +kernel) (by decide +kernel) (zrecv_c (c := 0) (by decide) (by decide +kernel)) rfl (Nat.le_of_ble_eq_true rfl)) h (fun r3 s2 h => ?_)
      refine Fr.if0 (q := 41) (by decide +kernel : zi 109 32 = some (.ifCond .lt 9, 3)) (by decide +kernel) (fun g9 => ?_) (fun g9 => ?_)
      · have h := h.1 g9
        exact h
      · have h := h.2 g9
        refine Fr.ildn (by decide +kernel : zi 109 35 = some (.iload_n 1, 1)) rfl ?_
        refine Fr.iconst (by decide +kernel : zi 109 36 = some (.iconst 1, 1)) (by decide) ?_
        refine Fr.ildn (by decide +kernel : zi 109 37 = some (.iload_n 2, 1)) rfl ?_
        refine Fr.ishl (by decide +kernel : zi 109 38 = some (.ishl, 1)) ?_
        refine Fr.ior (by decide +kernel : zi 109 39 = some (.ior, 1)) ?_
        refine Fr.istn (lv2 := [some (rf 1), some (it (zor v1 (zshl 1 v2))), some (it v2)]) (by decide +kernel : zi 109 40 = some (.istore_n 1, 1)) (Nat.le_of_ble_eq_true rfl) rfl ?_
        exact h
theorem f109_41 {xs : Nat → Int} {L : Nat} {d : Nat} {v1 : Int} {v2 : Int} {s : Pl} {P : Int → Pl → Prop} (h : Fr xs L T0 106 d 109 4 [some (rf 1), some (it v1), some (it (zw (v2 + 1)))] [] s (qi P)) : Fr xs L T0 106 d 109 41 [some (rf 1), some (it v1), some (it v2)] [] s (qi P) := by
  refine Fr.iinc (lv2 := [some (rf 1), some (it v1), some (it (zw (v2 + 1)))]) (by decide +kernel : zi 109 41 = some (.iinc 2 1, 3)) (Nat.le_of_ble_eq_true rfl) rfl rfl ?_
  refine Fr.goto (q := 4) (by decide +kernel : zi 109 44 = some (.goto (-40), 3)) (by decide +kernel) ?_
  exact h
-- 110 X7_join
theorem f110_0 {xs : Nat → Int} {L : Nat} {d : Nat} {v1 : Int} {v2 : Int} {s : Pl} {P : Int → Pl → Prop} (h : Ev xs L T0 106 d 126 [it v1] s (qi fun r2 s1 => ((r2 = 0 → P (-5) s1) ∧ (¬ (r2 = 0) → Ev xs L T0 106 d 126 [it v2] s1 (qi fun r4 s3 => ((r4 = 0 → P (-5) s3) ∧ (¬ (r4 = 0) → ((¬ v1 = v2 → Ev xs L T0 106 d 4 [rf 2, it v1, it v2, it 1] s3 (qi fun r6 s5 => Ev xs L T0 106 d 122 [rf 1] s5 (qr fun c9 s7 => ∃ tq8 : Nat, tq8 < 6 ∧ c9 = 21 + 4 * tq8 + 1 ∧ Ev xs L T0 106 d 124 [rf 1, rf (21 + 4 * tq8 + 1), it 0] s7 (qi fun r10 s9 => Ev xs L T0 106 d 4 [rf 2, it v1, it v2, it r6] s9 (qi fun r12 s11 => P r10 s11))))) ∧ (¬ (¬ v1 = v2) → P (-5) s3))))))))) : Fr xs L T0 106 d 110 0 [some (rf 1), some (it v1), some (it v2), none, none] [] s (qi P) := by
  refine Fr.ildn (by decide +kernel : zi 110 0 = some (.iload_n 1, 1)) rfl ?_
  refine Fr.callI (y2 := 126) (na := 1) (as := [it v1]) (rest := []) (by decide +kernel : zi 110 1 = some (.invokestatic 94, 3)) rfl (by decide +kernel) (by decide +kernel) rfl rfl (zok_S rfl (by decide) (by decide +kernel) rfl (Nat.le_of_ble_eq_true rfl)) h (fun r2 s1 h => ?_)
  refine Fr.if0 (q := 19) (by decide +kernel : zi 110 4 = some (.ifCond .eq 15, 3)) (by decide +kernel) (fun g9 => ?_) (fun g9 => ?_)
  · have h := h.1 g9
    refine Fr.bipush (by decide +kernel : zi 110 19 = some (.bipush (-5), 2)) (by decide) ?_
    exact Fr.retI (by decide +kernel : zi 110 21 = some (.ireturn, 1)) (by decide +kernel) h
  · have h := h.2 g9
    refine Fr.ildn (by decide +kernel : zi 110 7 = some (.iload_n 2, 1)) rfl ?_
    refine Fr.callI (y2 := 126) (na := 1) (as := [it v2]) (rest := []) (by decide +kernel : zi 110 8 = some (.invokestatic 94, 3)) rfl (by decide +kernel) (by decide +kernel) rfl rfl (zok_S rfl (by decide) (by decide +kernel) rfl (Nat.le_of_ble_eq_true rfl)) h (fun r4 s3 h => ?_)
    refine Fr.if0 (q := 19) (by decide +kernel : zi 110 11 = some (.ifCond .eq 8, 3)) (by decide +kernel) (fun g9 => ?_) (fun g9 => ?_)
    · have h := h.1 g9
      refine Fr.bipush (by decide +kernel : zi 110 19 = some (.bipush (-5), 2)) (by decide) ?_
      exact Fr.retI (by decide +kernel : zi 110 21 = some (.ireturn, 1)) (by decide +kernel) h
    · have h := h.2 g9
      refine Fr.ildn (by decide +kernel : zi 110 14 = some (.iload_n 1, 1)) rfl ?_
      refine Fr.ildn (by decide +kernel : zi 110 15 = some (.iload_n 2, 1)) rfl ?_
      refine Fr.if2 (q := 22) (by decide +kernel : zi 110 16 = some (.if_icmp .ne 6, 3)) (by decide +kernel) (fun g9 => ?_) (fun g9 => ?_)
      · have h := h.1 g9
        refine Fr.aldn (c := 1) (by decide +kernel : zi 110 22 = some (.aload_n 0, 1)) rfl ⟨by omega, by omega⟩ ?_
        refine Fr.gR (c := 0) (c2 := 2) (ci := 7) (k := 0) 0 (by decide +kernel : zi 110 23 = some (.getfield 10, 3)) (by decide +kernel) (by decide +kernel) (by decide +kernel) (by decide) rfl (fun q => q (0, 0, 2) (by decide +kernel)) ?_
        refine Fr.ildn (by decide +kernel : zi 110 26 = some (.iload_n 1, 1)) rfl ?_
        refine Fr.ildn (by decide +kernel : zi 110 27 = some (.iload_n 2, 1)) rfl ?_
        refine Fr.iconst (by decide +kernel : zi 110 28 = some (.iconst 1, 1)) (by decide) ?_
        refine Fr.callI (y2 := 4) (na := 4) (as := [rf 2, it v1, it v2, it 1]) (rest := []) (by decide +kernel : zi 110 29 = some (.invokevirtual 102, 3)) rfl (by decide +kernel) (by decide +kernel) rfl rfl (zok_V rfl (by decide) (by decide +kernel) (by decide +kernel) (zrecv_c (c := 1) (by decide) (by decide +kernel)) rfl (Nat.le_of_ble_eq_true rfl)) h (fun r6 s5 h => ?_)
        refine Fr.istn (lv2 := [some (rf 1), some (it v1), some (it v2), some (it r6), none]) (by decide +kernel : zi 110 32 = some (.istore_n 3, 1)) (Nat.le_of_ble_eq_true rfl) rfl ?_
        refine Fr.aldn (c := 1) (by decide +kernel : zi 110 33 = some (.aload_n 0, 1)) rfl ⟨by omega, by omega⟩ ?_
        refine Fr.aldn (c := 1) (by decide +kernel : zi 110 34 = some (.aload_n 0, 1)) rfl ⟨by omega, by omega⟩ ?_
        refine Fr.callR (y2 := 122) (na := 1) (as := [rf 1]) (rest := [rf 1]) (by decide +kernel : zi 110 35 = some (.invokevirtual 130, 3)) rfl (by decide +kernel) (by decide +kernel) rfl rfl (zok_V rfl (by decide) (by decide +kernel) (by decide +kernel) (zrecv_c (c := 0) (by decide) (by decide +kernel)) rfl (Nat.le_of_ble_eq_true rfl)) h (fun c9 s7 h => ?_)
        obtain ⟨tq8, htq8, g0, h⟩ := h
        subst g0
        refine Fr.iconst (by decide +kernel : zi 110 38 = some (.iconst 0, 1)) (by decide) ?_
        refine Fr.callI (y2 := 124) (na := 3) (as := [rf 1, rf (21 + 4 * tq8 + 1), it 0]) (rest := []) (by decide +kernel : zi 110 39 = some (.invokevirtual 217, 3)) rfl (by decide +kernel) (by decide +kernel) rfl rfl (zok_V rfl (by decide) (by decide +kernel) (by decide +kernel) (zrecv_c (c := 0) (by decide) (by decide +kernel)) rfl (Nat.le_of_ble_eq_true rfl)) h (fun r10 s9 h => ?_)
        refine Fr.ist (lv2 := [some (rf 1), some (it v1), some (it v2), some (it r6), some (it r10)]) (by decide +kernel : zi 110 42 = some (.istore 4, 2)) (Nat.le_of_ble_eq_true rfl) rfl ?_
        refine Fr.aldn (c := 1) (by decide +kernel : zi 110 44 = some (.aload_n 0, 1)) rfl ⟨by omega, by omega⟩ ?_
        refine Fr.gR (c := 0) (c2 := 2) (ci := 7) (k := 0) 0 (by decide +kernel : zi 110 45 = some (.getfield 10, 3)) (by decide +kernel) (by decide +kernel) (by decide +kernel) (by decide) rfl (fun q => q (0, 0, 2) (by decide +kernel)) ?_
        refine Fr.ildn (by decide +kernel : zi 110 48 = some (.iload_n 1, 1)) rfl ?_
        refine Fr.ildn (by decide +kernel : zi 110 49 = some (.iload_n 2, 1)) rfl ?_
        refine Fr.ildn (by decide +kernel : zi 110 50 = some (.iload_n 3, 1)) rfl ?_
        refine Fr.callI (y2 := 4) (na := 4) (as := [rf 2, it v1, it v2, it r6]) (rest := []) (by decide +kernel : zi 110 51 = some (.invokevirtual 102, 3)) rfl (by decide +kernel) (by decide +kernel) rfl rfl (zok_V rfl (by decide) (by decide +kernel) (by decide +kernel) (zrecv_c (c := 1) (by decide) (by decide +kernel)) rfl (Nat.le_of_ble_eq_true rfl)) h (fun r12 s11 h => ?_)
        refine Fr.pop (by decide +kernel : zi 110 54 = some (.pop, 1)) rfl ?_
        refine Fr.ild (by decide +kernel : zi 110 55 = some (.iload 4, 2)) rfl ?_
        exact Fr.retI (by decide +kernel : zi 110 57 = some (.ireturn, 1)) (by decide +kernel) h
      · have h := h.2 g9
        refine Fr.bipush (by decide +kernel : zi 110 19 = some (.bipush (-5), 2)) (by decide) ?_
        exact Fr.retI (by decide +kernel : zi 110 21 = some (.ireturn, 1)) (by decide +kernel) h
theorem e110 {xs : Nat → Int} {L : Nat} {d : Nat} {v1 : Int} {v2 : Int} {s : Pl} {Q : Option AV → Pl → Prop} (hd : 1 ≤ d) (k : Fr xs L T0 106 (d - 1) 110 0 [some (rf 1), some (it v1), some (it v2), none, none] [] s Q) : Ev xs L T0 106 d 110 [rf 1, it v1, it v2] s Q := Ev.of (by decide) _ rfl hd k
-- 111 X7_leave
theorem f111_0 {xs : Nat → Int} {L : Nat} {d : Nat} {v1 : Int} {s : Pl} {P : Int → Pl → Prop} (h : ((v1 = 0 → Fr xs L T0 106 d 111 12 [some (rf 1), some (it v1), none, none, none, none] [] s (qi P)) ∧ (¬ (v1 = 0) → ((v1 = 1 → Fr xs L T0 106 d 111 12 [some (rf 1), some (it v1), none, none, none, none] [] s (qi P)) ∧ (¬ (v1 = 1) → P (-2) s))))) : Fr xs L T0 106 d 111 0 [some (rf 1), some (it v1), none, none, none, none] [] s (qi P) := by
  refine Fr.ildn (by decide +kernel : zi 111 0 = some (.iload_n 1, 1)) rfl ?_
  refine Fr.if0 (q := 12) (by decide +kernel : zi 111 1 = some (.ifCond .eq 11, 3)) (by decide +kernel) (fun g9 => ?_) (fun g9 => ?_)
  · have h := h.1 g9
    exact h
  · have h := h.2 g9
    refine Fr.ildn (by decide +kernel : zi 111 4 = some (.iload_n 1, 1)) rfl ?_
    refine Fr.iconst (by decide +kernel : zi 111 5 = some (.iconst 1, 1)) (by decide) ?_
    refine Fr.if2 (q := 12) (by decide +kernel : zi 111 6 = some (.if_icmp .eq 6, 3)) (by decide +kernel) (fun g9 => ?_) (fun g9 => ?_)
    · have h := h.1 g9
      exact h
    · have h := h.2 g9
      refine Fr.bipush (by decide +kernel : zi 111 9 = some (.bipush (-2), 2)) (by decide) ?_
      exact Fr.retI (by decide +kernel : zi 111 11 = some (.ireturn, 1)) (by decide +kernel) h
theorem e111 {xs : Nat → Int} {L : Nat} {d : Nat} {v1 : Int} {s : Pl} {Q : Option AV → Pl → Prop} (hd : 1 ≤ d) (k : Fr xs L T0 106 (d - 1) 111 0 [some (rf 1), some (it v1), none, none, none, none] [] s Q) : Ev xs L T0 106 d 111 [rf 1, it v1] s Q := Ev.of (by decide) _ rfl hd k
theorem f111_12 {xs : Nat → Int} {L : Nat} {d : Nat} {v1 : Int} {s : Pl} {P : Int → Pl → Prop} (h : Ev xs L T0 106 d 123 [rf 1] s (qv fun s1 => Fr xs L T0 106 d 111 23 [some (rf 1), some (it v1), some (it (-1)), some (it (-1)), some (it 0), none] [] s1 (qi P))) : Fr xs L T0 106 d 111 12 [some (rf 1), some (it v1), none, none, none, none] [] s (qi P) := by
  refine Fr.aldn (c := 1) (by decide +kernel : zi 111 12 = some (.aload_n 0, 1)) rfl ⟨by omega, by omega⟩ ?_
  refine Fr.callV (y2 := 123) (na := 1) (as := [rf 1]) (rest := []) (by decide +kernel : zi 111 13 = some (.invokevirtual 221, 3)) rfl (by decide +kernel) (by decide +kernel) rfl rfl (zok_V rfl (by decide) (by decide +kernel) (by decide +kernel) (zrecv_c (c := 0) (by decide) (by decide +kernel)) rfl (Nat.le_of_ble_eq_true rfl)) h (fun s1 h => ?_)
  refine Fr.iconst (by decide +kernel : zi 111 16 = some (.iconst (-1), 1)) (by decide) ?_
  refine Fr.istn (lv2 := [some (rf 1), some (it v1), some (it (-1)), none, none, none]) (by decide +kernel : zi 111 17 = some (.istore_n 2, 1)) (Nat.le_of_ble_eq_true rfl) rfl ?_
  refine Fr.iconst (by decide +kernel : zi 111 18 = some (.iconst (-1), 1)) (by decide) ?_
  refine Fr.istn (lv2 := [some (rf 1), some (it v1), some (it (-1)), some (it (-1)), none, none]) (by decide +kernel : zi 111 19 = some (.istore_n 3, 1)) (Nat.le_of_ble_eq_true rfl) rfl ?_
  refine Fr.iconst (by decide +kernel : zi 111 20 = some (.iconst 0, 1)) (by decide) ?_
  refine Fr.ist (lv2 := [some (rf 1), some (it v1), some (it (-1)), some (it (-1)), some (it 0), none]) (by decide +kernel : zi 111 21 = some (.istore 4, 2)) (Nat.le_of_ble_eq_true rfl) rfl ?_
  exact h
theorem f111_23 {xs : Nat → Int} {L : Nat} {d : Nat} {v1 : Int} {v2 : Int} {v3 : Int} {v4 : Int} {w5 : Option AV} {s : Pl} {P : Int → Pl → Prop} (h : ((s 1 1 ≤ v4 → ((¬ v1 = 0 → P v3 s) ∧ (¬ (¬ v1 = 0) → P v2 s))) ∧ (¬ (s 1 1 ≤ v4) → Ev xs L T0 106 d 40 [rf 58] s (qi fun r2 s1 => Ev xs L T0 106 d 60 [rf 65, it (zand r2 (zxor (zshl 1 v4) (-1)))] s1 (qi fun r4 s3 => ((r4 < 0 → Fr xs L T0 106 d 111 79 [some (rf 1), some (it v1), some (it v2), some (it v3), some (it v4), some (it r4)] [] s3 (qi P)) ∧ (¬ (r4 < 0) → ((v3 < 0 → Fr xs L T0 106 d 111 73 [some (rf 1), some (it v1), some (it v2), some (it v3), some (it v4), some (it r4)] [] s3 (qi P)) ∧ (¬ (v3 < 0) → ((v3 ≤ r4 → Fr xs L T0 106 d 111 79 [some (rf 1), some (it v1), some (it v2), some (it v3), some (it v4), some (it r4)] [] s3 (qi P)) ∧ (¬ (v3 ≤ r4) → Fr xs L T0 106 d 111 73 [some (rf 1), some (it v1), some (it v2), some (it v3), some (it v4), some (it r4)] [] s3 (qi P)))))))))))) : Fr xs L T0 106 d 111 23 [some (rf 1), some (it v1), some (it v2), some (it v3), some (it v4), w5] [] s (qi P) := by
  refine Fr.ild (by decide +kernel : zi 111 23 = some (.iload 4, 2)) rfl ?_
  refine Fr.aldn (c := 1) (by decide +kernel : zi 111 25 = some (.aload_n 0, 1)) rfl ⟨by omega, by omega⟩ ?_
  refine Fr.gR (c := 0) (c2 := 2) (ci := 7) (k := 0) 0 (by decide +kernel : zi 111 26 = some (.getfield 10, 3)) (by decide +kernel) (by decide +kernel) (by decide +kernel) (by decide) rfl (fun q => q (0, 0, 2) (by decide +kernel)) ?_
  refine Fr.gI (c := 1) (ci := 0) (k := 1) (t := 0) 1 (by decide +kernel : zi 111 29 = some (.getfield 109, 3)) (by decide +kernel) (by decide +kernel) (by decide +kernel) (by decide) rfl ?_
  refine Fr.if2 (q := 85) (by decide +kernel : zi 111 32 = some (.if_icmp .ge 53, 3)) (by decide +kernel) (fun g9 => ?_) (fun g9 => ?_)
  · have h := h.1 g9
    refine Fr.ildn (by decide +kernel : zi 111 85 = some (.iload_n 1, 1)) rfl ?_
    refine Fr.if0 (q := 93) (by decide +kernel : zi 111 86 = some (.ifCond .ne 7, 3)) (by decide +kernel) (fun g9 => ?_) (fun g9 => ?_)
    · have h := h.1 g9
      refine Fr.ildn (by decide +kernel : zi 111 93 = some (.iload_n 3, 1)) rfl ?_
      exact Fr.retI (by decide +kernel : zi 111 94 = some (.ireturn, 1)) (by decide +kernel) h
    · have h := h.2 g9
      refine Fr.ildn (by decide +kernel : zi 111 89 = some (.iload_n 2, 1)) rfl ?_
      refine Fr.goto (q := 94) (by decide +kernel : zi 111 90 = some (.goto 4, 3)) (by decide +kernel) ?_
      exact Fr.retI (by decide +kernel : zi 111 94 = some (.ireturn, 1)) (by decide +kernel) h
  · have h := h.2 g9
    refine Fr.aldn (c := 1) (by decide +kernel : zi 111 35 = some (.aload_n 0, 1)) rfl ⟨by omega, by omega⟩ ?_
    refine Fr.gR (c := 0) (c2 := 65) (ci := 7) (k := 7) 7 (by decide +kernel : zi 111 36 = some (.getfield 83, 3)) (by decide +kernel) (by decide +kernel) (by decide +kernel) (by decide) rfl (fun q => q (0, 7, 65) (by decide +kernel)) ?_
    refine Fr.aldn (c := 1) (by decide +kernel : zi 111 39 = some (.aload_n 0, 1)) rfl ⟨by omega, by omega⟩ ?_
    refine Fr.gR (c := 0) (c2 := 58) (ci := 7) (k := 6) 6 (by decide +kernel : zi 111 40 = some (.getfield 74, 3)) (by decide +kernel) (by decide +kernel) (by decide +kernel) (by decide) rfl (fun q => q (0, 6, 58) (by decide +kernel)) ?_
    refine Fr.callI (y2 := 40) (na := 1) (as := [rf 58]) (rest := [rf 65]) (by decide +kernel : zi 111 43 = some (.invokevirtual 230, 3)) rfl (by decide +kernel) (by decide +kernel) rfl rfl (zok_V rfl (by decide) (by decide +kernel) (by decide +kernel) (zrecv_c (c := 57) (by decide) (by decide +kernel)) rfl (Nat.le_of_ble_eq_true rfl)) h (fun r2 s1 h => ?_)
    refine Fr.iconst (by decide +kernel : zi 111 46 = some (.iconst 1, 1)) (by decide) ?_
    refine Fr.ild (by decide +kernel : zi 111 47 = some (.iload 4, 2)) rfl ?_
    refine Fr.ishl (by decide +kernel : zi 111 49 = some (.ishl, 1)) ?_
    refine Fr.iconst (by decide +kernel : zi 111 50 = some (.iconst (-1), 1)) (by decide) ?_
    refine Fr.ixor (by decide +kernel : zi 111 51 = some (.ixor, 1)) ?_
    refine Fr.iand (by decide +kernel : zi 111 52 = some (.iand, 1)) ?_
    refine Fr.callI (y2 := 60) (na := 2) (as := [rf 65, it (zand r2 (zxor (zshl 1 v4) (-1)))]) (rest := []) (by decide +kernel : zi 111 53 = some (.invokevirtual 227, 3)) rfl (by decide +kernel) (by decide +kernel) rfl rfl (zok_V rfl (by decide) (by decide +kernel) (by decide +kernel) (zrecv_c (c := 64) (by decide) (by decide +kernel)) rfl (Nat.le_of_ble_eq_true rfl)) h (fun r4 s3 h => ?_)
    refine Fr.ist (lv2 := [some (rf 1), some (it v1), some (it v2), some (it v3), some (it v4), some (it r4)]) (by decide +kernel : zi 111 56 = some (.istore 5, 2)) (Nat.le_of_ble_eq_true rfl) rfl ?_
    refine Fr.ild (by decide +kernel : zi 111 58 = some (.iload 5, 2)) rfl ?_
    refine Fr.if0 (q := 79) (by decide +kernel : zi 111 60 = some (.ifCond .lt 19, 3)) (by decide +kernel) (fun g9 => ?_) (fun g9 => ?_)
    · have h := h.1 g9
      exact h
    · have h := h.2 g9
      refine Fr.ildn (by decide +kernel : zi 111 63 = some (.iload_n 3, 1)) rfl ?_
      refine Fr.if0 (q := 73) (by decide +kernel : zi 111 64 = some (.ifCond .lt 9, 3)) (by decide +kernel) (fun g9 => ?_) (fun g9 => ?_)
      · have h := h.1 g9
        exact h
      · have h := h.2 g9
        refine Fr.ild (by decide +kernel : zi 111 67 = some (.iload 5, 2)) rfl ?_
        refine Fr.ildn (by decide +kernel : zi 111 69 = some (.iload_n 3, 1)) rfl ?_
        refine Fr.if2 (q := 79) (by decide +kernel : zi 111 70 = some (.if_icmp .ge 9, 3)) (by decide +kernel) (fun g9 => ?_) (fun g9 => ?_)
        · have h := h.1 g9
          exact h
        · have h := h.2 g9
          exact h
theorem f111_73 {xs : Nat → Int} {L : Nat} {d : Nat} {v1 : Int} {v2 : Int} {v3 : Int} {v4 : Int} {v5 : Int} {s : Pl} {P : Int → Pl → Prop} (h : Fr xs L T0 106 d 111 79 [some (rf 1), some (it v1), some (it v4), some (it v5), some (it v4), some (it v5)] [] s (qi P)) : Fr xs L T0 106 d 111 73 [some (rf 1), some (it v1), some (it v2), some (it v3), some (it v4), some (it v5)] [] s (qi P) := by
  refine Fr.ild (by decide +kernel : zi 111 73 = some (.iload 4, 2)) rfl ?_
  refine Fr.istn (lv2 := [some (rf 1), some (it v1), some (it v4), some (it v3), some (it v4), some (it v5)]) (by decide +kernel : zi 111 75 = some (.istore_n 2, 1)) (Nat.le_of_ble_eq_true rfl) rfl ?_
  refine Fr.ild (by decide +kernel : zi 111 76 = some (.iload 5, 2)) rfl ?_
  refine Fr.istn (lv2 := [some (rf 1), some (it v1), some (it v4), some (it v5), some (it v4), some (it v5)]) (by decide +kernel : zi 111 78 = some (.istore_n 3, 1)) (Nat.le_of_ble_eq_true rfl) rfl ?_
  exact h
theorem f111_79 {xs : Nat → Int} {L : Nat} {d : Nat} {v1 : Int} {v2 : Int} {v3 : Int} {v4 : Int} {v5 : Int} {s : Pl} {P : Int → Pl → Prop} (h : Fr xs L T0 106 d 111 23 [some (rf 1), some (it v1), some (it v2), some (it v3), some (it (zw (v4 + 1))), some (it v5)] [] s (qi P)) : Fr xs L T0 106 d 111 79 [some (rf 1), some (it v1), some (it v2), some (it v3), some (it v4), some (it v5)] [] s (qi P) := by
  refine Fr.iinc (lv2 := [some (rf 1), some (it v1), some (it v2), some (it v3), some (it (zw (v4 + 1))), some (it v5)]) (by decide +kernel : zi 111 79 = some (.iinc 4 1, 3)) (Nat.le_of_ble_eq_true rfl) rfl rfl ?_
  refine Fr.goto (q := 23) (by decide +kernel : zi 111 82 = some (.goto (-59), 3)) (by decide +kernel) ?_
  exact h
-- 112 X7_first
theorem f112_0 {xs : Nat → Int} {L : Nat} {d : Nat}  {s : Pl} {P : Int → Pl → Prop} (h : Ev xs L T0 106 d 123 [rf 1] s (qv fun s1 => Ev xs L T0 106 d 61 [rf 65] s1 (qi fun r3 s2 => ((0 ≤ r3 → Ev xs L T0 106 d 8 [rf 2] (zup s2 0 9 0) (qi fun r5 s4 => Fr xs L T0 106 d 112 33 [some (rf 1), some (it r3), some (it r5), some (it 0), none] [] s4 (qi P))) ∧ (¬ (0 ≤ r3) → P (-1) s2))))) : Fr xs L T0 106 d 112 0 [some (rf 1), none, none, none, none] [] s (qi P) := by
  refine Fr.aldn (c := 1) (by decide +kernel : zi 112 0 = some (.aload_n 0, 1)) rfl ⟨by omega, by omega⟩ ?_
  refine Fr.callV (y2 := 123) (na := 1) (as := [rf 1]) (rest := []) (by decide +kernel : zi 112 1 = some (.invokevirtual 221, 3)) rfl (by decide +kernel) (by decide +kernel) rfl rfl (zok_V rfl (by decide) (by decide +kernel) (by decide +kernel) (zrecv_c (c := 0) (by decide) (by decide +kernel)) rfl (Nat.le_of_ble_eq_true rfl)) h (fun s1 h => ?_)
  refine Fr.aldn (c := 1) (by decide +kernel : zi 112 4 = some (.aload_n 0, 1)) rfl ⟨by omega, by omega⟩ ?_
  refine Fr.gR (c := 0) (c2 := 65) (ci := 7) (k := 7) 7 (by decide +kernel : zi 112 5 = some (.getfield 83, 3)) (by decide +kernel) (by decide +kernel) (by decide +kernel) (by decide) rfl (fun q => q (0, 7, 65) (by decide +kernel)) ?_
  refine Fr.callI (y2 := 61) (na := 1) (as := [rf 65]) (rest := []) (by decide +kernel : zi 112 8 = some (.invokevirtual 224, 3)) rfl (by decide +kernel) (by decide +kernel) rfl rfl (zok_V rfl (by decide) (by decide +kernel) (by decide +kernel) (zrecv_c (c := 64) (by decide) (by decide +kernel)) rfl (Nat.le_of_ble_eq_true rfl)) h (fun r3 s2 h => ?_)
  refine Fr.istn (lv2 := [some (rf 1), some (it r3), none, none, none]) (by decide +kernel : zi 112 11 = some (.istore_n 1, 1)) (Nat.le_of_ble_eq_true rfl) rfl ?_
  refine Fr.ildn (by decide +kernel : zi 112 12 = some (.iload_n 1, 1)) rfl ?_
  refine Fr.if0 (q := 18) (by decide +kernel : zi 112 13 = some (.ifCond .ge 5, 3)) (by decide +kernel) (fun g9 => ?_) (fun g9 => ?_)
  · have h := h.1 g9
    refine Fr.aldn (c := 1) (by decide +kernel : zi 112 18 = some (.aload_n 0, 1)) rfl ⟨by omega, by omega⟩ ?_
    refine Fr.iconst (by decide +kernel : zi 112 19 = some (.iconst 0, 1)) (by decide) ?_
    refine Fr.pZ (c := 0) (ci := 7) (k := 9) 9 (by decide +kernel : zi 112 20 = some (.putfield 98, 3)) (by decide +kernel) (by decide +kernel) (by decide) (by decide +kernel) (by decide) rfl ?_
    refine Fr.aldn (c := 1) (by decide +kernel : zi 112 23 = some (.aload_n 0, 1)) rfl ⟨by omega, by omega⟩ ?_
    refine Fr.gR (c := 0) (c2 := 2) (ci := 7) (k := 0) 0 (by decide +kernel : zi 112 24 = some (.getfield 10, 3)) (by decide +kernel) (by decide +kernel) (by decide +kernel) (by decide) rfl (fun q => q (0, 0, 2) (by decide +kernel)) ?_
    refine Fr.callI (y2 := 8) (na := 1) (as := [rf 2]) (rest := []) (by decide +kernel : zi 112 27 = some (.invokevirtual 180, 3)) rfl (by decide +kernel) (by decide +kernel) rfl rfl (zok_V rfl (by decide) (by decide +kernel) (by decide +kernel) (zrecv_c (c := 1) (by decide) (by decide +kernel)) rfl (Nat.le_of_ble_eq_true rfl)) h (fun r5 s4 h => ?_)
    refine Fr.istn (lv2 := [some (rf 1), some (it r3), some (it r5), none, none]) (by decide +kernel : zi 112 30 = some (.istore_n 2, 1)) (Nat.le_of_ble_eq_true rfl) rfl ?_
    refine Fr.iconst (by decide +kernel : zi 112 31 = some (.iconst 0, 1)) (by decide) ?_
    refine Fr.istn (lv2 := [some (rf 1), some (it r3), some (it r5), some (it 0), none]) (by decide +kernel : zi 112 32 = some (.istore_n 3, 1)) (Nat.le_of_ble_eq_true rfl) rfl ?_
    exact h
  · have h := h.2 g9
    refine Fr.iconst (by decide +kernel : zi 112 16 = some (.iconst (-1), 1)) (by decide) ?_
    exact Fr.retI (by decide +kernel : zi 112 17 = some (.ireturn, 1)) (by decide +kernel) h
theorem e112 {xs : Nat → Int} {L : Nat} {d : Nat}  {s : Pl} {Q : Option AV → Pl → Prop} (hd : 1 ≤ d) (k : Fr xs L T0 106 (d - 1) 112 0 [some (rf 1), none, none, none, none] [] s Q) : Ev xs L T0 106 d 112 [rf 1] s Q := Ev.of (by decide) _ rfl hd k
theorem f112_33 {xs : Nat → Int} {L : Nat} {d : Nat} {v1 : Int} {v2 : Int} {v3 : Int} {w4 : Option AV} {s : Pl} {P : Int → Pl → Prop} (h : ((s 1 1 ≤ v3 → P (-1) s) ∧ (¬ (s 1 1 ≤ v3) → Fr xs L T0 106 d 112 47 [some (rf 1), some (it v1), some (it v2), some (it v3), some (it 0)] [] s (qi P)))) : Fr xs L T0 106 d 112 33 [some (rf 1), some (it v1), some (it v2), some (it v3), w4] [] s (qi P) := by
  refine Fr.ildn (by decide +kernel : zi 112 33 = some (.iload_n 3, 1)) rfl ?_
  refine Fr.aldn (c := 1) (by decide +kernel : zi 112 34 = some (.aload_n 0, 1)) rfl ⟨by omega, by omega⟩ ?_
  refine Fr.gR (c := 0) (c2 := 2) (ci := 7) (k := 0) 0 (by decide +kernel : zi 112 35 = some (.getfield 10, 3)) (by decide +kernel) (by decide +kernel) (by decide +kernel) (by decide) rfl (fun q => q (0, 0, 2) (by decide +kernel)) ?_
  refine Fr.gI (c := 1) (ci := 0) (k := 1) (t := 0) 1 (by decide +kernel : zi 112 38 = some (.getfield 109, 3)) (by decide +kernel) (by decide +kernel) (by decide +kernel) (by decide) rfl ?_
  refine Fr.if2 (q := 119) (by decide +kernel : zi 112 41 = some (.if_icmp .ge 78, 3)) (by decide +kernel) (fun g9 => ?_) (fun g9 => ?_)
  · have h := h.1 g9
    refine Fr.iconst (by decide +kernel : zi 112 119 = some (.iconst (-1), 1)) (by decide) ?_
    exact Fr.retI (by decide +kernel : zi 112 120 = some (.ireturn, 1)) (by decide +kernel) h
  · have h := h.2 g9
    refine Fr.iconst (by decide +kernel : zi 112 44 = some (.iconst 0, 1)) (by decide) ?_
    refine Fr.ist (lv2 := [some (rf 1), some (it v1), some (it v2), some (it v3), some (it 0)]) (by decide +kernel : zi 112 45 = some (.istore 4, 2)) (Nat.le_of_ble_eq_true rfl) rfl ?_
    exact h
theorem f112_47 {xs : Nat → Int} {L : Nat} {d : Nat} {v1 : Int} {v2 : Int} {v3 : Int} {v4 : Int} {s : Pl} {P : Int → Pl → Prop} (h : ((s 1 1 ≤ v4 → Fr xs L T0 106 d 112 33 [some (rf 1), some (it v1), some (it v2), some (it (zw (v3 + 1))), some (it v4)] [] s (qi P)) ∧ (¬ (s 1 1 ≤ v4) → Ev xs L T0 106 d 42 [rf 58, it v2] s (qv fun s1 => Ev xs L T0 106 d 47 [rf 58, it v3, it v4] s1 (qi fun r3 s2 => ((r3 = 0 → Fr xs L T0 106 d 112 107 [some (rf 1), some (it v1), some (it v2), some (it v3), some (it v4)] [] s2 (qi P)) ∧ (¬ (r3 = 0) → Ev xs L T0 106 d 45 [rf 58, it v2, it v3, it v4] s2 (qi fun r5 s4 => Ev xs L T0 106 d 125 [rf 1, it v1, it r5] s4 (qi fun r7 s6 => ((r7 = 0 → Fr xs L T0 106 d 112 107 [some (rf 1), some (it v1), some (it v2), some (it v3), some (it v4)] [] s6 (qi P)) ∧ (¬ (r7 = 0) → P (zw ((zw (10 * v3)) + v4)) s6))))))))))) : Fr xs L T0 106 d 112 47 [some (rf 1), some (it v1), some (it v2), some (it v3), some (it v4)] [] s (qi P) := by
  refine Fr.ild (by decide +kernel : zi 112 47 = some (.iload 4, 2)) rfl ?_
  refine Fr.aldn (c := 1) (by decide +kernel : zi 112 49 = some (.aload_n 0, 1)) rfl ⟨by omega, by omega⟩ ?_
  refine Fr.gR (c := 0) (c2 := 2) (ci := 7) (k := 0) 0 (by decide +kernel : zi 112 50 = some (.getfield 10, 3)) (by decide +kernel) (by decide +kernel) (by decide +kernel) (by decide) rfl (fun q => q (0, 0, 2) (by decide +kernel)) ?_
  refine Fr.gI (c := 1) (ci := 0) (k := 1) (t := 0) 1 (by decide +kernel : zi 112 53 = some (.getfield 109, 3)) (by decide +kernel) (by decide +kernel) (by decide +kernel) (by decide) rfl ?_
  refine Fr.if2 (q := 113) (by decide +kernel : zi 112 56 = some (.if_icmp .ge 57, 3)) (by decide +kernel) (fun g9 => ?_) (fun g9 => ?_)
  · have h := h.1 g9
    refine Fr.iinc (lv2 := [some (rf 1), some (it v1), some (it v2), some (it (zw (v3 + 1))), some (it v4)]) (by decide +kernel : zi 112 113 = some (.iinc 3 1, 3)) (Nat.le_of_ble_eq_true rfl) rfl rfl ?_
    refine Fr.goto (q := 33) (by decide +kernel : zi 112 116 = some (.goto (-83), 3)) (by decide +kernel) ?_
    exact h
  · have h := h.2 g9
    refine Fr.aldn (c := 1) (by decide +kernel : zi 112 59 = some (.aload_n 0, 1)) rfl ⟨by omega, by omega⟩ ?_
    refine Fr.gR (c := 0) (c2 := 58) (ci := 7) (k := 6) 6 (by decide +kernel : zi 112 60 = some (.getfield 74, 3)) (by decide +kernel) (by decide +kernel) (by decide +kernel) (by decide) rfl (fun q => q (0, 6, 58) (by decide +kernel)) ?_
    refine Fr.ildn (by decide +kernel : zi 112 63 = some (.iload_n 2, 1)) rfl ?_
    refine Fr.callV (y2 := 42) (na := 2) (as := [rf 58, it v2]) (rest := []) (by decide +kernel : zi 112 64 = some (.invokevirtual 183, 3)) rfl (by decide +kernel) (by decide +kernel) rfl rfl (zok_V rfl (by decide) (by decide +kernel) (by decide +kernel) (zrecv_c (c := 57) (by decide) (by decide +kernel)) rfl (Nat.le_of_ble_eq_true rfl)) h (fun s1 h => ?_)
    refine Fr.aldn (c := 1) (by decide +kernel : zi 112 67 = some (.aload_n 0, 1)) rfl ⟨by omega, by omega⟩ ?_
    refine Fr.gR (c := 0) (c2 := 58) (ci := 7) (k := 6) 6 (by decide +kernel : zi 112 68 = some (.getfield 74, 3)) (by decide +kernel) (by decide +kernel) (by decide +kernel) (by decide) rfl (fun q => q (0, 6, 58) (by decide +kernel)) ?_
    refine Fr.ildn (by decide +kernel : zi 112 71 = some (.iload_n 3, 1)) rfl ?_
    refine Fr.ild (by decide +kernel : zi 112 72 = some (.iload 4, 2)) rfl ?_
    refine Fr.callI (y2 := 47) (na := 3) (as := [rf 58, it v3, it v4]) (rest := []) (by decide +kernel : zi 112 74 = some (.invokevirtual 186, 3)) rfl (by decide +kernel) (by decide +kernel) rfl rfl (zok_V rfl (by decide) (by decide +kernel) (by decide +kernel) (zrecv_c (c := 57) (by decide) (by decide +kernel)) rfl (Nat.le_of_ble_eq_true rfl)) h (fun r3 s2 h => ?_)
    refine Fr.if0 (q := 107) (by decide +kernel : zi 112 77 = some (.ifCond .eq 30, 3)) (by decide +kernel) (fun g9 => ?_) (fun g9 => ?_)
    · have h := h.1 g9
      exact h
    · have h := h.2 g9
      refine Fr.aldn (c := 1) (by decide +kernel : zi 112 80 = some (.aload_n 0, 1)) rfl ⟨by omega, by omega⟩ ?_
      refine Fr.ildn (by decide +kernel : zi 112 81 = some (.iload_n 1, 1)) rfl ?_
      refine Fr.aldn (c := 1) (by decide +kernel : zi 112 82 = some (.aload_n 0, 1)) rfl ⟨by omega, by omega⟩ ?_
      refine Fr.gR (c := 0) (c2 := 58) (ci := 7) (k := 6) 6 (by decide +kernel : zi 112 83 = some (.getfield 74, 3)) (by decide +kernel) (by decide +kernel) (by decide +kernel) (by decide) rfl (fun q => q (0, 6, 58) (by decide +kernel)) ?_
      refine Fr.ildn (by decide +kernel : zi 112 86 = some (.iload_n 2, 1)) rfl ?_
      refine Fr.ildn (by decide +kernel : zi 112 87 = some (.iload_n 3, 1)) rfl ?_
      refine Fr.ild (by decide +kernel : zi 112 88 = some (.iload 4, 2)) rfl ?_
      refine Fr.callI (y2 := 45) (na := 4) (as := [rf 58, it v2, it v3, it v4]) (rest := [it v1, rf 1]) (by decide +kernel : zi 112 90 = some (.invokevirtual 255, 3)) rfl (by decide +kernel) (by decide +kernel) rfl rfl (zok_V rfl (by decide) (by decide +kernel) (by decide +kernel) (zrecv_c (c := 57) (by decide) (by decide +kernel)) rfl (Nat.le_of_ble_eq_true rfl)) h (fun r5 s4 h => ?_)
      refine Fr.callI (y2 := 125) (na := 3) (as := [rf 1, it v1, it r5]) (rest := []) (by decide +kernel : zi 112 93 = some (.invokevirtual 258, 3)) rfl (by decide +kernel) (by decide +kernel) rfl rfl (zok_V rfl (by decide) (by decide +kernel) (by decide +kernel) (zrecv_c (c := 0) (by decide) (by decide +kernel)) rfl (Nat.le_of_ble_eq_true rfl)) h (fun r7 s6 h => ?_)
      refine Fr.if0 (q := 107) (by decide +kernel : zi 112 96 = some (.ifCond .eq 11, 3)) (by decide +kernel) (fun g9 => ?_) (fun g9 => ?_)
      · have h := h.1 g9
        exact h
      · have h := h.2 g9
        refine Fr.bipush (by decide +kernel : zi 112 99 = some (.bipush 10, 2)) (by decide) ?_
        refine Fr.ildn (by decide +kernel : zi 112 101 = some (.iload_n 3, 1)) rfl ?_
        refine Fr.imul (by decide +kernel : zi 112 102 = some (.imul, 1)) ?_
        refine Fr.ild (by decide +kernel : zi 112 103 = some (.iload 4, 2)) rfl ?_
        refine Fr.iadd (by decide +kernel : zi 112 105 = some (.iadd, 1)) ?_
        exact Fr.retI (by decide +kernel : zi 112 106 = some (.ireturn, 1)) (by decide +kernel) h
theorem f112_107 {xs : Nat → Int} {L : Nat} {d : Nat} {v1 : Int} {v2 : Int} {v3 : Int} {v4 : Int} {s : Pl} {P : Int → Pl → Prop} (h : Fr xs L T0 106 d 112 47 [some (rf 1), some (it v1), some (it v2), some (it v3), some (it (zw (v4 + 1)))] [] s (qi P)) : Fr xs L T0 106 d 112 107 [some (rf 1), some (it v1), some (it v2), some (it v3), some (it v4)] [] s (qi P) := by
  refine Fr.iinc (lv2 := [some (rf 1), some (it v1), some (it v2), some (it v3), some (it (zw (v4 + 1)))]) (by decide +kernel : zi 112 107 = some (.iinc 4 1, 3)) (Nat.le_of_ble_eq_true rfl) rfl rfl ?_
  refine Fr.goto (q := 47) (by decide +kernel : zi 112 110 = some (.goto (-63), 3)) (by decide +kernel) ?_
  exact h
-- 113 X7_drawn
theorem f113_0 {xs : Nat → Int} {L : Nat} {d : Nat} {v1 : Int} {v2 : Int} {v3 : Int} {s : Pl} {P : Int → Pl → Prop} (h : ((v1 < 0 → P (-2) s) ∧ (¬ (v1 < 0) → ((99999 < v1 → P (-2) s) ∧ (¬ (99999 < v1) → ((v2 < 0 → P (-2) s) ∧ (¬ (v2 < 0) → ((40 < v2 → P (-2) s) ∧ (¬ (40 < v2) → ((v3 < 0 → P (-2) s) ∧ (¬ (v3 < 0) → ((v3 ≤ 2 → Ev xs L T0 106 d 122 [rf 1] s (qr fun c9 s1 => ∃ tq2 : Nat, tq2 < 6 ∧ c9 = 21 + 4 * tq2 + 1 ∧ Ev xs L T0 106 d 34 [rf 58, rf (21 + 4 * tq2 + 1)] s1 (qv fun s3 => Ev xs L T0 106 d 80 [rf 69, it v1, it v2] s3 (qv fun s4 => ((¬ v3 = 0 → ((¬ v3 = 1 → P (s4 57 11) s4) ∧ (¬ (¬ v3 = 1) → P (s4 68 6) s4))) ∧ (¬ (¬ v3 = 0) → Ev xs L T0 106 d 41 [rf 58] s4 (qi fun r6 s5 => P r6 s5))))))) ∧ (¬ (v3 ≤ 2) → P (-2) s))))))))))))) : Fr xs L T0 106 d 113 0 [some (rf 1), some (it v1), some (it v2), some (it v3)] [] s (qi P) := by
  refine Fr.ildn (by decide +kernel : zi 113 0 = some (.iload_n 1, 1)) rfl ?_
  refine Fr.if0 (q := 30) (by decide +kernel : zi 113 1 = some (.ifCond .lt 29, 3)) (by decide +kernel) (fun g9 => ?_) (fun g9 => ?_)
  · have h := h.1 g9
    refine Fr.bipush (by decide +kernel : zi 113 30 = some (.bipush (-2), 2)) (by decide) ?_
    exact Fr.retI (by decide +kernel : zi 113 32 = some (.ireturn, 1)) (by decide +kernel) h
  · have h := h.2 g9
    refine Fr.ildn (by decide +kernel : zi 113 4 = some (.iload_n 1, 1)) rfl ?_
    refine Fr.ldcw (v := 99999) (by decide +kernel : zi 113 5 = some (.ldc_w 261, 3)) (by decide +kernel) ?_
    refine Fr.if2 (q := 30) (by decide +kernel : zi 113 8 = some (.if_icmp .gt 22, 3)) (by decide +kernel) (fun g9 => ?_) (fun g9 => ?_)
    · have h := h.1 g9
      refine Fr.bipush (by decide +kernel : zi 113 30 = some (.bipush (-2), 2)) (by decide) ?_
      exact Fr.retI (by decide +kernel : zi 113 32 = some (.ireturn, 1)) (by decide +kernel) h
    · have h := h.2 g9
      refine Fr.ildn (by decide +kernel : zi 113 11 = some (.iload_n 2, 1)) rfl ?_
      refine Fr.if0 (q := 30) (by decide +kernel : zi 113 12 = some (.ifCond .lt 18, 3)) (by decide +kernel) (fun g9 => ?_) (fun g9 => ?_)
      · have h := h.1 g9
        refine Fr.bipush (by decide +kernel : zi 113 30 = some (.bipush (-2), 2)) (by decide) ?_
        exact Fr.retI (by decide +kernel : zi 113 32 = some (.ireturn, 1)) (by decide +kernel) h
      · have h := h.2 g9
        refine Fr.ildn (by decide +kernel : zi 113 15 = some (.iload_n 2, 1)) rfl ?_
        refine Fr.bipush (by decide +kernel : zi 113 16 = some (.bipush 40, 2)) (by decide) ?_
        refine Fr.if2 (q := 30) (by decide +kernel : zi 113 18 = some (.if_icmp .gt 12, 3)) (by decide +kernel) (fun g9 => ?_) (fun g9 => ?_)
        · have h := h.1 g9
          refine Fr.bipush (by decide +kernel : zi 113 30 = some (.bipush (-2), 2)) (by decide) ?_
          exact Fr.retI (by decide +kernel : zi 113 32 = some (.ireturn, 1)) (by decide +kernel) h
        · have h := h.2 g9
          refine Fr.ildn (by decide +kernel : zi 113 21 = some (.iload_n 3, 1)) rfl ?_
          refine Fr.if0 (q := 30) (by decide +kernel : zi 113 22 = some (.ifCond .lt 8, 3)) (by decide +kernel) (fun g9 => ?_) (fun g9 => ?_)
          · have h := h.1 g9
            refine Fr.bipush (by decide +kernel : zi 113 30 = some (.bipush (-2), 2)) (by decide) ?_
            exact Fr.retI (by decide +kernel : zi 113 32 = some (.ireturn, 1)) (by decide +kernel) h
          · have h := h.2 g9
            refine Fr.ildn (by decide +kernel : zi 113 25 = some (.iload_n 3, 1)) rfl ?_
            refine Fr.iconst (by decide +kernel : zi 113 26 = some (.iconst 2, 1)) (by decide) ?_
            refine Fr.if2 (q := 33) (by decide +kernel : zi 113 27 = some (.if_icmp .le 6, 3)) (by decide +kernel) (fun g9 => ?_) (fun g9 => ?_)
            · have h := h.1 g9
              refine Fr.aldn (c := 1) (by decide +kernel : zi 113 33 = some (.aload_n 0, 1)) rfl ⟨by omega, by omega⟩ ?_
              refine Fr.gR (c := 0) (c2 := 58) (ci := 7) (k := 6) 6 (by decide +kernel : zi 113 34 = some (.getfield 74, 3)) (by decide +kernel) (by decide +kernel) (by decide +kernel) (by decide) rfl (fun q => q (0, 6, 58) (by decide +kernel)) ?_
              refine Fr.aldn (c := 1) (by decide +kernel : zi 113 37 = some (.aload_n 0, 1)) rfl ⟨by omega, by omega⟩ ?_
              refine Fr.callR (y2 := 122) (na := 1) (as := [rf 1]) (rest := [rf 58]) (by decide +kernel : zi 113 38 = some (.invokevirtual 130, 3)) rfl (by decide +kernel) (by decide +kernel) rfl rfl (zok_V rfl (by decide) (by decide +kernel) (by decide +kernel) (zrecv_c (c := 0) (by decide) (by decide +kernel)) rfl (Nat.le_of_ble_eq_true rfl)) h (fun c9 s1 h => ?_)
              obtain ⟨tq2, htq2, g0, h⟩ := h
              subst g0
              refine Fr.callV (y2 := 34) (na := 2) (as := [rf 58, rf (21 + 4 * tq2 + 1)]) (rest := []) (by decide +kernel : zi 113 41 = some (.invokevirtual 134, 3)) rfl (by decide +kernel) (by decide +kernel) rfl rfl (zok_V rfl (by decide) (by decide +kernel) (by decide +kernel) (zrecv_c (c := 57) (by decide) (by decide +kernel)) rfl (Nat.le_of_ble_eq_true rfl)) h (fun s3 h => ?_)
              refine Fr.aldn (c := 1) (by decide +kernel : zi 113 44 = some (.aload_n 0, 1)) rfl ⟨by omega, by omega⟩ ?_
              refine Fr.gR (c := 0) (c2 := 69) (ci := 7) (k := 8) 8 (by decide +kernel : zi 113 45 = some (.getfield 90, 3)) (by decide +kernel) (by decide +kernel) (by decide +kernel) (by decide) rfl (fun q => q (0, 8, 69) (by decide +kernel)) ?_
              refine Fr.ildn (by decide +kernel : zi 113 48 = some (.iload_n 1, 1)) rfl ?_
              refine Fr.ildn (by decide +kernel : zi 113 49 = some (.iload_n 2, 1)) rfl ?_
              refine Fr.callV (y2 := 80) (na := 3) (as := [rf 69, it v1, it v2]) (rest := []) (by decide +kernel : zi 113 50 = some (.invokevirtual 262, 3)) rfl (by decide +kernel) (by decide +kernel) rfl rfl (zok_V rfl (by decide) (by decide +kernel) (by decide +kernel) (zrecv_c (c := 68) (by decide) (by decide +kernel)) rfl (Nat.le_of_ble_eq_true rfl)) h (fun s4 h => ?_)
              refine Fr.ildn (by decide +kernel : zi 113 53 = some (.iload_n 3, 1)) rfl ?_
              refine Fr.if0 (q := 67) (by decide +kernel : zi 113 54 = some (.ifCond .ne 13, 3)) (by decide +kernel) (fun g9 => ?_) (fun g9 => ?_)
              · have h := h.1 g9
                refine Fr.ildn (by decide +kernel : zi 113 67 = some (.iload_n 3, 1)) rfl ?_
                refine Fr.iconst (by decide +kernel : zi 113 68 = some (.iconst 1, 1)) (by decide) ?_
                refine Fr.if2 (q := 82) (by decide +kernel : zi 113 69 = some (.if_icmp .ne 13, 3)) (by decide +kernel) (fun g9 => ?_) (fun g9 => ?_)
                · have h := h.1 g9
                  refine Fr.aldn (c := 1) (by decide +kernel : zi 113 82 = some (.aload_n 0, 1)) rfl ⟨by omega, by omega⟩ ?_
                  refine Fr.gR (c := 0) (c2 := 58) (ci := 7) (k := 6) 6 (by decide +kernel : zi 113 83 = some (.getfield 74, 3)) (by decide +kernel) (by decide +kernel) (by decide +kernel) (by decide) rfl (fun q => q (0, 6, 58) (by decide +kernel)) ?_
                  refine Fr.gI (c := 57) (ci := 3) (k := 11) (t := 0) 11 (by decide +kernel : zi 113 86 = some (.getfield 205, 3)) (by decide +kernel) (by decide +kernel) (by decide +kernel) (by decide) rfl ?_
                  exact Fr.retI (by decide +kernel : zi 113 89 = some (.ireturn, 1)) (by decide +kernel) h
                · have h := h.2 g9
                  refine Fr.aldn (c := 1) (by decide +kernel : zi 113 72 = some (.aload_n 0, 1)) rfl ⟨by omega, by omega⟩ ?_
                  refine Fr.gR (c := 0) (c2 := 69) (ci := 7) (k := 8) 8 (by decide +kernel : zi 113 73 = some (.getfield 90, 3)) (by decide +kernel) (by decide +kernel) (by decide +kernel) (by decide) rfl (fun q => q (0, 8, 69) (by decide +kernel)) ?_
                  refine Fr.gI (c := 68) (ci := 6) (k := 6) (t := 0) 6 (by decide +kernel : zi 113 76 = some (.getfield 202, 3)) (by decide +kernel) (by decide +kernel) (by decide +kernel) (by decide) rfl ?_
                  refine Fr.goto (q := 89) (by decide +kernel : zi 113 79 = some (.goto 10, 3)) (by decide +kernel) ?_
                  exact Fr.retI (by decide +kernel : zi 113 89 = some (.ireturn, 1)) (by decide +kernel) h
              · have h := h.2 g9
                refine Fr.aldn (c := 1) (by decide +kernel : zi 113 57 = some (.aload_n 0, 1)) rfl ⟨by omega, by omega⟩ ?_
                refine Fr.gR (c := 0) (c2 := 58) (ci := 7) (k := 6) 6 (by decide +kernel : zi 113 58 = some (.getfield 74, 3)) (by decide +kernel) (by decide +kernel) (by decide +kernel) (by decide) rfl (fun q => q (0, 6, 58) (by decide +kernel)) ?_
                refine Fr.callI (y2 := 41) (na := 1) (as := [rf 58]) (rest := []) (by decide +kernel : zi 113 61 = some (.invokevirtual 206, 3)) rfl (by decide +kernel) (by decide +kernel) rfl rfl (zok_V rfl (by decide) (by decide +kernel) (by decide +kernel) (zrecv_c (c := 57) (by decide) (by decide +kernel)) rfl (Nat.le_of_ble_eq_true rfl)) h (fun r6 s5 h => ?_)
                refine Fr.goto (q := 89) (by decide +kernel : zi 113 64 = some (.goto 25, 3)) (by decide +kernel) ?_
                exact Fr.retI (by decide +kernel : zi 113 89 = some (.ireturn, 1)) (by decide +kernel) h
            · have h := h.2 g9
              refine Fr.bipush (by decide +kernel : zi 113 30 = some (.bipush (-2), 2)) (by decide) ?_
              exact Fr.retI (by decide +kernel : zi 113 32 = some (.ireturn, 1)) (by decide +kernel) h
theorem e113 {xs : Nat → Int} {L : Nat} {d : Nat} {v1 : Int} {v2 : Int} {v3 : Int} {s : Pl} {Q : Option AV → Pl → Prop} (hd : 1 ≤ d) (k : Fr xs L T0 106 (d - 1) 113 0 [some (rf 1), some (it v1), some (it v2), some (it v3)] [] s Q) : Ev xs L T0 106 d 113 [rf 1, it v1, it v2, it v3] s Q := Ev.of (by decide) _ rfl hd k
-- 114 X7_chance
theorem f114_0 {xs : Nat → Int} {L : Nat} {d : Nat} {v1 : Int} {v2 : Int} {v3 : Int} {v4 : Int} {s : Pl} {P : Int → Pl → Prop} (h : ((v3 < 0 → Fr xs L T0 106 d 114 40 [some (rf 1), some (it v1), some (it v2), some (it v3), some (it v4), some (it (zdiv v3 100)), some (it (zrem v3 100)), none, none, none] [] s (ql P)) ∧ (¬ (v3 < 0) → ((zdiv v3 100 < 1 → Fr xs L T0 106 d 114 40 [some (rf 1), some (it v1), some (it v2), some (it v3), some (it v4), some (it (zdiv v3 100)), some (it (zrem v3 100)), none, none, none] [] s (ql P)) ∧ (¬ (zdiv v3 100 < 1) → ((20 < zdiv v3 100 → Fr xs L T0 106 d 114 40 [some (rf 1), some (it v1), some (it v2), some (it v3), some (it v4), some (it (zdiv v3 100)), some (it (zrem v3 100)), none, none, none] [] s (ql P)) ∧ (¬ (20 < zdiv v3 100) → ((40 < zrem v3 100 → Fr xs L T0 106 d 114 40 [some (rf 1), some (it v1), some (it v2), some (it v3), some (it v4), some (it (zdiv v3 100)), some (it (zrem v3 100)), none, none, none] [] s (ql P)) ∧ (¬ (40 < zrem v3 100) → Fr xs L T0 106 d 114 41 [some (rf 1), some (it v1), some (it v2), some (it v3), some (it v4), some (it (zdiv v3 100)), some (it (zrem v3 100)), none, none, none] [it 1] s (ql P)))))))))) : Fr xs L T0 106 d 114 0 [some (rf 1), some (it v1), some (it v2), some (it v3), some (it v4), none, none, none, none, none] [] s (ql P) := by
  refine Fr.ildn (by decide +kernel : zi 114 0 = some (.iload_n 3, 1)) rfl ?_
  refine Fr.bipush (by decide +kernel : zi 114 1 = some (.bipush 100, 2)) (by decide) ?_
  refine Fr.idiv (by decide +kernel : zi 114 3 = some (.idiv, 1)) (by decide) ?_
  refine Fr.ist (lv2 := [some (rf 1), some (it v1), some (it v2), some (it v3), some (it v4), some (it (zdiv v3 100)), none, none, none, none]) (by decide +kernel : zi 114 4 = some (.istore 5, 2)) (Nat.le_of_ble_eq_true rfl) rfl ?_
  refine Fr.ildn (by decide +kernel : zi 114 6 = some (.iload_n 3, 1)) rfl ?_
  refine Fr.bipush (by decide +kernel : zi 114 7 = some (.bipush 100, 2)) (by decide) ?_
  refine Fr.irem (by decide +kernel : zi 114 9 = some (.irem, 1)) (by decide) ?_
  refine Fr.ist (lv2 := [some (rf 1), some (it v1), some (it v2), some (it v3), some (it v4), some (it (zdiv v3 100)), some (it (zrem v3 100)), none, none, none]) (by decide +kernel : zi 114 10 = some (.istore 6, 2)) (Nat.le_of_ble_eq_true rfl) rfl ?_
  refine Fr.ildn (by decide +kernel : zi 114 12 = some (.iload_n 3, 1)) rfl ?_
  refine Fr.if0 (q := 40) (by decide +kernel : zi 114 13 = some (.ifCond .lt 27, 3)) (by decide +kernel) (fun g9 => ?_) (fun g9 => ?_)
  · have h := h.1 g9
    exact h
  · have h := h.2 g9
    refine Fr.ild (by decide +kernel : zi 114 16 = some (.iload 5, 2)) rfl ?_
    refine Fr.iconst (by decide +kernel : zi 114 18 = some (.iconst 1, 1)) (by decide) ?_
    refine Fr.if2 (q := 40) (by decide +kernel : zi 114 19 = some (.if_icmp .lt 21, 3)) (by decide +kernel) (fun g9 => ?_) (fun g9 => ?_)
    · have h := h.1 g9
      exact h
    · have h := h.2 g9
      refine Fr.ild (by decide +kernel : zi 114 22 = some (.iload 5, 2)) rfl ?_
      refine Fr.bipush (by decide +kernel : zi 114 24 = some (.bipush 20, 2)) (by decide) ?_
      refine Fr.if2 (q := 40) (by decide +kernel : zi 114 26 = some (.if_icmp .gt 14, 3)) (by decide +kernel) (fun g9 => ?_) (fun g9 => ?_)
      · have h := h.1 g9
        exact h
      · have h := h.2 g9
        refine Fr.ild (by decide +kernel : zi 114 29 = some (.iload 6, 2)) rfl ?_
        refine Fr.bipush (by decide +kernel : zi 114 31 = some (.bipush 40, 2)) (by decide) ?_
        refine Fr.if2 (q := 40) (by decide +kernel : zi 114 33 = some (.if_icmp .gt 7, 3)) (by decide +kernel) (fun g9 => ?_) (fun g9 => ?_)
        · have h := h.1 g9
          exact h
        · have h := h.2 g9
          refine Fr.iconst (by decide +kernel : zi 114 36 = some (.iconst 1, 1)) (by decide) ?_
          refine Fr.goto (q := 41) (by decide +kernel : zi 114 37 = some (.goto 4, 3)) (by decide +kernel) ?_
          exact h
theorem e114 {xs : Nat → Int} {L : Nat} {d : Nat} {v1 : Int} {v2 : Int} {v3 : Int} {v4 : Int} {s : Pl} {Q : Option AV → Pl → Prop} (hd : 1 ≤ d) (k : Fr xs L T0 106 (d - 1) 114 0 [some (rf 1), some (it v1), some (it v2), some (it v3), some (it v4), none, none, none, none, none] [] s Q) : Ev xs L T0 106 d 114 [rf 1, it v1, it v2, it v3, it v4] s Q := Ev.of (by decide) _ rfl hd k
theorem f114_40 {xs : Nat → Int} {L : Nat} {d : Nat} {v1 : Int} {v2 : Int} {v3 : Int} {v4 : Int} {v5 : Int} {v6 : Int} {s : Pl} {P : Int → Pl → Prop} (h : Fr xs L T0 106 d 114 41 [some (rf 1), some (it v1), some (it v2), some (it v3), some (it v4), some (it v5), some (it v6), none, none, none] [it 0] s (ql P)) : Fr xs L T0 106 d 114 40 [some (rf 1), some (it v1), some (it v2), some (it v3), some (it v4), some (it v5), some (it v6), none, none, none] [] s (ql P) := by
  refine Fr.iconst (by decide +kernel : zi 114 40 = some (.iconst 0, 1)) (by decide) ?_
  exact h
theorem f114_41 {xs : Nat → Int} {L : Nat} {d : Nat} {v1 : Int} {v2 : Int} {v3 : Int} {v4 : Int} {v5 : Int} {v6 : Int} {vs0 : Int} {s : Pl} {P : Int → Pl → Prop} (h : Ev xs L T0 106 d 2 [rf 2, it v1] s (qi fun r2 s1 => ((r2 = 0 → P (-4611686018427387904) s1) ∧ (¬ (r2 = 0) → ((v2 < 0 → P (-4611686018427387904) s1) ∧ (¬ (v2 < 0) → ((99999 < v2 → P (-4611686018427387904) s1) ∧ (¬ (99999 < v2) → ((vs0 = 0 → P (-4611686018427387904) s1) ∧ (¬ (vs0 = 0) → ((v4 = 0 → Fr xs L T0 106 d 114 85 [some (rf 1), some (it v1), some (it v2), some (it v3), some (it v4), some (it v5), some (it v6), some (it vs0), none, none] [] s1 (ql P)) ∧ (¬ (v4 = 0) → ((v4 = 1 → Fr xs L T0 106 d 114 85 [some (rf 1), some (it v1), some (it v2), some (it v3), some (it v4), some (it v5), some (it v6), some (it vs0), none, none] [] s1 (ql P)) ∧ (¬ (v4 = 1) → P (-4611686018427387904) s1)))))))))))))) : Fr xs L T0 106 d 114 41 [some (rf 1), some (it v1), some (it v2), some (it v3), some (it v4), some (it v5), some (it v6), none, none, none] [it vs0] s (ql P) := by
  refine Fr.ist (lv2 := [some (rf 1), some (it v1), some (it v2), some (it v3), some (it v4), some (it v5), some (it v6), some (it vs0), none, none]) (by decide +kernel : zi 114 41 = some (.istore 7, 2)) (Nat.le_of_ble_eq_true rfl) rfl ?_
  refine Fr.aldn (c := 1) (by decide +kernel : zi 114 43 = some (.aload_n 0, 1)) rfl ⟨by omega, by omega⟩ ?_
  refine Fr.gR (c := 0) (c2 := 2) (ci := 7) (k := 0) 0 (by decide +kernel : zi 114 44 = some (.getfield 10, 3)) (by decide +kernel) (by decide +kernel) (by decide +kernel) (by decide) rfl (fun q => q (0, 0, 2) (by decide +kernel)) ?_
  refine Fr.ildn (by decide +kernel : zi 114 47 = some (.iload_n 1, 1)) rfl ?_
  refine Fr.callI (y2 := 2) (na := 2) (as := [rf 2, it v1]) (rest := []) (by decide +kernel : zi 114 48 = some (.invokevirtual 137, 3)) rfl (by decide +kernel) (by decide +kernel) rfl rfl (zok_V rfl (by decide) (by decide +kernel) (by decide +kernel) (zrecv_c (c := 1) (by decide) (by decide +kernel)) rfl (Nat.le_of_ble_eq_true rfl)) h (fun r2 s1 h => ?_)
  refine Fr.if0 (q := 81) (by decide +kernel : zi 114 51 = some (.ifCond .eq 30, 3)) (by decide +kernel) (fun g9 => ?_) (fun g9 => ?_)
  · have h := h.1 g9
    refine Fr.ldc2 (v := lg (-4611686018427387904)) (by decide +kernel : zi 114 81 = some (.ldc2_w 266, 3)) (by decide +kernel) ?_
    exact Fr.retL (by decide +kernel : zi 114 84 = some (.lreturn, 1)) (by decide +kernel) h
  · have h := h.2 g9
    refine Fr.ildn (by decide +kernel : zi 114 54 = some (.iload_n 2, 1)) rfl ?_
    refine Fr.if0 (q := 81) (by decide +kernel : zi 114 55 = some (.ifCond .lt 26, 3)) (by decide +kernel) (fun g9 => ?_) (fun g9 => ?_)
    · have h := h.1 g9
      refine Fr.ldc2 (v := lg (-4611686018427387904)) (by decide +kernel : zi 114 81 = some (.ldc2_w 266, 3)) (by decide +kernel) ?_
      exact Fr.retL (by decide +kernel : zi 114 84 = some (.lreturn, 1)) (by decide +kernel) h
    · have h := h.2 g9
      refine Fr.ildn (by decide +kernel : zi 114 58 = some (.iload_n 2, 1)) rfl ?_
      refine Fr.ldcw (v := 99999) (by decide +kernel : zi 114 59 = some (.ldc_w 261, 3)) (by decide +kernel) ?_
      refine Fr.if2 (q := 81) (by decide +kernel : zi 114 62 = some (.if_icmp .gt 19, 3)) (by decide +kernel) (fun g9 => ?_) (fun g9 => ?_)
      · have h := h.1 g9
        refine Fr.ldc2 (v := lg (-4611686018427387904)) (by decide +kernel : zi 114 81 = some (.ldc2_w 266, 3)) (by decide +kernel) ?_
        exact Fr.retL (by decide +kernel : zi 114 84 = some (.lreturn, 1)) (by decide +kernel) h
      · have h := h.2 g9
        refine Fr.ild (by decide +kernel : zi 114 65 = some (.iload 7, 2)) rfl ?_
        refine Fr.if0 (q := 81) (by decide +kernel : zi 114 67 = some (.ifCond .eq 14, 3)) (by decide +kernel) (fun g9 => ?_) (fun g9 => ?_)
        · have h := h.1 g9
          refine Fr.ldc2 (v := lg (-4611686018427387904)) (by decide +kernel : zi 114 81 = some (.ldc2_w 266, 3)) (by decide +kernel) ?_
          exact Fr.retL (by decide +kernel : zi 114 84 = some (.lreturn, 1)) (by decide +kernel) h
        · have h := h.2 g9
          refine Fr.ild (by decide +kernel : zi 114 70 = some (.iload 4, 2)) rfl ?_
          refine Fr.if0 (q := 85) (by decide +kernel : zi 114 72 = some (.ifCond .eq 13, 3)) (by decide +kernel) (fun g9 => ?_) (fun g9 => ?_)
          · have h := h.1 g9
            exact h
          · have h := h.2 g9
            refine Fr.ild (by decide +kernel : zi 114 75 = some (.iload 4, 2)) rfl ?_
            refine Fr.iconst (by decide +kernel : zi 114 77 = some (.iconst 1, 1)) (by decide) ?_
            refine Fr.if2 (q := 85) (by decide +kernel : zi 114 78 = some (.if_icmp .eq 7, 3)) (by decide +kernel) (fun g9 => ?_) (fun g9 => ?_)
            · have h := h.1 g9
              exact h
            · have h := h.2 g9
              refine Fr.ldc2 (v := lg (-4611686018427387904)) (by decide +kernel : zi 114 81 = some (.ldc2_w 266, 3)) (by decide +kernel) ?_
              exact Fr.retL (by decide +kernel : zi 114 84 = some (.lreturn, 1)) (by decide +kernel) h
theorem f114_85 {xs : Nat → Int} {L : Nat} {d : Nat} {v1 : Int} {v2 : Int} {v3 : Int} {v4 : Int} {v5 : Int} {v6 : Int} {v7 : Int} {s : Pl} {P : Int → Pl → Prop} (h : Ev xs L T0 106 d 122 [rf 1] s (qr fun c9 s1 => ∃ tq2 : Nat, tq2 < 6 ∧ c9 = 21 + 4 * tq2 + 1 ∧ Ev xs L T0 106 d 34 [rf 58, rf (21 + 4 * tq2 + 1)] s1 (qv fun s3 => Fr xs L T0 106 d 114 102 [some (rf 1), some (it v1), some (it v2), some (it v3), some (it v4), some (it v5), some (it v6), some (it v7), some (it 0), some (it 0)] [] s3 (ql P)))) : Fr xs L T0 106 d 114 85 [some (rf 1), some (it v1), some (it v2), some (it v3), some (it v4), some (it v5), some (it v6), some (it v7), none, none] [] s (ql P) := by
  refine Fr.aldn (c := 1) (by decide +kernel : zi 114 85 = some (.aload_n 0, 1)) rfl ⟨by omega, by omega⟩ ?_
  refine Fr.gR (c := 0) (c2 := 58) (ci := 7) (k := 6) 6 (by decide +kernel : zi 114 86 = some (.getfield 74, 3)) (by decide +kernel) (by decide +kernel) (by decide +kernel) (by decide) rfl (fun q => q (0, 6, 58) (by decide +kernel)) ?_
  refine Fr.aldn (c := 1) (by decide +kernel : zi 114 89 = some (.aload_n 0, 1)) rfl ⟨by omega, by omega⟩ ?_
  refine Fr.callR (y2 := 122) (na := 1) (as := [rf 1]) (rest := [rf 58]) (by decide +kernel : zi 114 90 = some (.invokevirtual 130, 3)) rfl (by decide +kernel) (by decide +kernel) rfl rfl (zok_V rfl (by decide) (by decide +kernel) (by decide +kernel) (zrecv_c (c := 0) (by decide) (by decide +kernel)) rfl (Nat.le_of_ble_eq_true rfl)) h (fun c9 s1 h => ?_)
  obtain ⟨tq2, htq2, g0, h⟩ := h
  subst g0
  refine Fr.callV (y2 := 34) (na := 2) (as := [rf 58, rf (21 + 4 * tq2 + 1)]) (rest := []) (by decide +kernel : zi 114 93 = some (.invokevirtual 134, 3)) rfl (by decide +kernel) (by decide +kernel) rfl rfl (zok_V rfl (by decide) (by decide +kernel) (by decide +kernel) (zrecv_c (c := 57) (by decide) (by decide +kernel)) rfl (Nat.le_of_ble_eq_true rfl)) h (fun s3 h => ?_)
  refine Fr.iconst (by decide +kernel : zi 114 96 = some (.iconst 0, 1)) (by decide) ?_
  refine Fr.ist (lv2 := [some (rf 1), some (it v1), some (it v2), some (it v3), some (it v4), some (it v5), some (it v6), some (it v7), some (it 0), none]) (by decide +kernel : zi 114 97 = some (.istore 8, 2)) (Nat.le_of_ble_eq_true rfl) rfl ?_
  refine Fr.iconst (by decide +kernel : zi 114 99 = some (.iconst 0, 1)) (by decide) ?_
  refine Fr.ist (lv2 := [some (rf 1), some (it v1), some (it v2), some (it v3), some (it v4), some (it v5), some (it v6), some (it v7), some (it 0), some (it 0)]) (by decide +kernel : zi 114 100 = some (.istore 9, 2)) (Nat.le_of_ble_eq_true rfl) rfl ?_
  exact h
theorem f114_102 {xs : Nat → Int} {L : Nat} {d : Nat} {v1 : Int} {v2 : Int} {v3 : Int} {v4 : Int} {v5 : Int} {v6 : Int} {v7 : Int} {v8 : Int} {v9 : Int} {s : Pl} {P : Int → Pl → Prop} (h : ((v5 ≤ v9 → Ev xs L T0 106 d 130 [it v8, it v5] s (qi fun r2 s1 => ((1 ≤ r2 → ((¬ v4 = 0 → (¬ r2 = 0) ∧ P (zdiv v5 r2) s1) ∧ (¬ (¬ v4 = 0) → (¬ r2 = 0) ∧ P (zdiv v8 r2) s1))) ∧ (¬ (1 ≤ r2) → P (-4611686018427387904) s1)))) ∧ (¬ (v5 ≤ v9) → Ev xs L T0 106 d 80 [rf 69, it (zw (v2 + v9)), it v6] s (qv fun s3 => Ev xs L T0 106 d 41 [rf 58] s3 (qi fun r5 s4 => Fr xs L T0 106 d 114 102 [some (rf 1), some (it v1), some (it v2), some (it v3), some (it v4), some (it v5), some (it v6), some (it v7), some (it (zw (v8 + (zand (zshr r5 v1) 1)))), some (it (zw (v9 + 1)))] [] s4 (ql P)))))) : Fr xs L T0 106 d 114 102 [some (rf 1), some (it v1), some (it v2), some (it v3), some (it v4), some (it v5), some (it v6), some (it v7), some (it v8), some (it v9)] [] s (ql P) := by
  refine Fr.ild (by decide +kernel : zi 114 102 = some (.iload 9, 2)) rfl ?_
  refine Fr.ild (by decide +kernel : zi 114 104 = some (.iload 5, 2)) rfl ?_
  refine Fr.if2 (q := 144) (by decide +kernel : zi 114 106 = some (.if_icmp .ge 38, 3)) (by decide +kernel) (fun g9 => ?_) (fun g9 => ?_)
  · have h := h.1 g9
    refine Fr.ild (by decide +kernel : zi 114 144 = some (.iload 8, 2)) rfl ?_
    refine Fr.ild (by decide +kernel : zi 114 146 = some (.iload 5, 2)) rfl ?_
    refine Fr.callI (y2 := 130) (na := 2) (as := [it v8, it v5]) (rest := []) (by decide +kernel : zi 114 148 = some (.invokestatic 268, 3)) rfl (by decide +kernel) (by decide +kernel) rfl rfl (zok_S rfl (by decide) (by decide +kernel) rfl (Nat.le_of_ble_eq_true rfl)) h (fun r2 s1 h => ?_)
    refine Fr.ist (lv2 := [some (rf 1), some (it v1), some (it v2), some (it v3), some (it v4), some (it v5), some (it v6), some (it v7), some (it v8), some (it r2)]) (by decide +kernel : zi 114 151 = some (.istore 9, 2)) (Nat.le_of_ble_eq_true rfl) rfl ?_
    refine Fr.ild (by decide +kernel : zi 114 153 = some (.iload 9, 2)) rfl ?_
    refine Fr.iconst (by decide +kernel : zi 114 155 = some (.iconst 1, 1)) (by decide) ?_
    refine Fr.if2 (q := 165) (by decide +kernel : zi 114 156 = some (.if_icmp .ge 9, 3)) (by decide +kernel) (fun g9 => ?_) (fun g9 => ?_)
    · have h := h.1 g9
      refine Fr.ild (by decide +kernel : zi 114 165 = some (.iload 4, 2)) rfl ?_
      refine Fr.if0 (q := 179) (by decide +kernel : zi 114 167 = some (.ifCond .ne 12, 3)) (by decide +kernel) (fun g9 => ?_) (fun g9 => ?_)
      · have h := h.1 g9
        refine Fr.ild (by decide +kernel : zi 114 179 = some (.iload 5, 2)) rfl ?_
        refine Fr.ild (by decide +kernel : zi 114 181 = some (.iload 9, 2)) rfl ?_
        obtain ⟨g0, h⟩ := h
        refine Fr.idiv (by decide +kernel : zi 114 183 = some (.idiv, 1)) g0 ?_
        refine Fr.i2l (by decide +kernel : zi 114 184 = some (.i2l, 1)) ?_
        exact Fr.retL (by decide +kernel : zi 114 185 = some (.lreturn, 1)) (by decide +kernel) h
      · have h := h.2 g9
        refine Fr.ild (by decide +kernel : zi 114 170 = some (.iload 8, 2)) rfl ?_
        refine Fr.ild (by decide +kernel : zi 114 172 = some (.iload 9, 2)) rfl ?_
        obtain ⟨g0, h⟩ := h
        refine Fr.idiv (by decide +kernel : zi 114 174 = some (.idiv, 1)) g0 ?_
        refine Fr.i2l (by decide +kernel : zi 114 175 = some (.i2l, 1)) ?_
        refine Fr.goto (q := 185) (by decide +kernel : zi 114 176 = some (.goto 9, 3)) (by decide +kernel) ?_
        exact Fr.retL (by decide +kernel : zi 114 185 = some (.lreturn, 1)) (by decide +kernel) h
    · have h := h.2 g9
      refine Fr.ldc2 (v := lg (-4611686018427387904)) (by decide +kernel : zi 114 159 = some (.ldc2_w 266, 3)) (by decide +kernel) ?_
      refine Fr.goto (q := 185) (by decide +kernel : zi 114 162 = some (.goto 23, 3)) (by decide +kernel) ?_
      exact Fr.retL (by decide +kernel : zi 114 185 = some (.lreturn, 1)) (by decide +kernel) h
  · have h := h.2 g9
    refine Fr.aldn (c := 1) (by decide +kernel : zi 114 109 = some (.aload_n 0, 1)) rfl ⟨by omega, by omega⟩ ?_
    refine Fr.gR (c := 0) (c2 := 69) (ci := 7) (k := 8) 8 (by decide +kernel : zi 114 110 = some (.getfield 90, 3)) (by decide +kernel) (by decide +kernel) (by decide +kernel) (by decide) rfl (fun q => q (0, 8, 69) (by decide +kernel)) ?_
    refine Fr.ildn (by decide +kernel : zi 114 113 = some (.iload_n 2, 1)) rfl ?_
    refine Fr.ild (by decide +kernel : zi 114 114 = some (.iload 9, 2)) rfl ?_
    refine Fr.iadd (by decide +kernel : zi 114 116 = some (.iadd, 1)) ?_
    refine Fr.ild (by decide +kernel : zi 114 117 = some (.iload 6, 2)) rfl ?_
    refine Fr.callV (y2 := 80) (na := 3) (as := [rf 69, it (zw (v2 + v9)), it v6]) (rest := []) (by decide +kernel : zi 114 119 = some (.invokevirtual 262, 3)) rfl (by decide +kernel) (by decide +kernel) rfl rfl (zok_V rfl (by decide) (by decide +kernel) (by decide +kernel) (zrecv_c (c := 68) (by decide) (by decide +kernel)) rfl (Nat.le_of_ble_eq_true rfl)) h (fun s3 h => ?_)
    refine Fr.ild (by decide +kernel : zi 114 122 = some (.iload 8, 2)) rfl ?_
    refine Fr.aldn (c := 1) (by decide +kernel : zi 114 124 = some (.aload_n 0, 1)) rfl ⟨by omega, by omega⟩ ?_
    refine Fr.gR (c := 0) (c2 := 58) (ci := 7) (k := 6) 6 (by decide +kernel : zi 114 125 = some (.getfield 74, 3)) (by decide +kernel) (by decide +kernel) (by decide +kernel) (by decide) rfl (fun q => q (0, 6, 58) (by decide +kernel)) ?_
    refine Fr.callI (y2 := 41) (na := 1) (as := [rf 58]) (rest := [it v8]) (by decide +kernel : zi 114 128 = some (.invokevirtual 206, 3)) rfl (by decide +kernel) (by decide +kernel) rfl rfl (zok_V rfl (by decide) (by decide +kernel) (by decide +kernel) (zrecv_c (c := 57) (by decide) (by decide +kernel)) rfl (Nat.le_of_ble_eq_true rfl)) h (fun r5 s4 h => ?_)
    refine Fr.ildn (by decide +kernel : zi 114 131 = some (.iload_n 1, 1)) rfl ?_
    refine Fr.ishr (by decide +kernel : zi 114 132 = some (.ishr, 1)) ?_
    refine Fr.iconst (by decide +kernel : zi 114 133 = some (.iconst 1, 1)) (by decide) ?_
    refine Fr.iand (by decide +kernel : zi 114 134 = some (.iand, 1)) ?_
    refine Fr.iadd (by decide +kernel : zi 114 135 = some (.iadd, 1)) ?_
    refine Fr.ist (lv2 := [some (rf 1), some (it v1), some (it v2), some (it v3), some (it v4), some (it v5), some (it v6), some (it v7), some (it (zw (v8 + (zand (zshr r5 v1) 1)))), some (it v9)]) (by decide +kernel : zi 114 136 = some (.istore 8, 2)) (Nat.le_of_ble_eq_true rfl) rfl ?_
    refine Fr.iinc (lv2 := [some (rf 1), some (it v1), some (it v2), some (it v3), some (it v4), some (it v5), some (it v6), some (it v7), some (it (zw (v8 + (zand (zshr r5 v1) 1)))), some (it (zw (v9 + 1)))]) (by decide +kernel : zi 114 138 = some (.iinc 9 1, 3)) (Nat.le_of_ble_eq_true rfl) rfl rfl ?_
    refine Fr.goto (q := 102) (by decide +kernel : zi 114 141 = some (.goto (-39), 3)) (by decide +kernel) ?_
    exact h
-- 115 X7_image
theorem f115_0 {xs : Nat → Int} {L : Nat} {d : Nat}  {s : Pl} {P : Int → Pl → Prop} (h : Ev xs L T0 106 d 1 [rf 11, rf 2] s (qv fun s1 => P ((zup s1 0 2 1) 1 1) (zup s1 0 2 1))) : Fr xs L T0 106 d 115 0 [some (rf 1)] [] s (qi P) := by
  refine Fr.aldn (c := 1) (by decide +kernel : zi 115 0 = some (.aload_n 0, 1)) rfl ⟨by omega, by omega⟩ ?_
  refine Fr.gR (c := 0) (c2 := 11) (ci := 7) (k := 1) 1 (by decide +kernel : zi 115 1 = some (.getfield 16, 3)) (by decide +kernel) (by decide +kernel) (by decide +kernel) (by decide) rfl (fun q => q (0, 1, 11) (by decide +kernel)) ?_
  refine Fr.aldn (c := 1) (by decide +kernel : zi 115 4 = some (.aload_n 0, 1)) rfl ⟨by omega, by omega⟩ ?_
  refine Fr.gR (c := 0) (c2 := 2) (ci := 7) (k := 0) 0 (by decide +kernel : zi 115 5 = some (.getfield 10, 3)) (by decide +kernel) (by decide +kernel) (by decide +kernel) (by decide) rfl (fun q => q (0, 0, 2) (by decide +kernel)) ?_
  refine Fr.callV (y2 := 1) (na := 2) (as := [rf 11, rf 2]) (rest := []) (by decide +kernel : zi 115 8 = some (.invokevirtual 271, 3)) rfl (by decide +kernel) (by decide +kernel) rfl rfl (zok_V rfl (by decide) (by decide +kernel) (by decide +kernel) (zrecv_c (c := 10) (by decide) (by decide +kernel)) rfl (Nat.le_of_ble_eq_true rfl)) h (fun s1 h => ?_)
  refine Fr.aldn (c := 1) (by decide +kernel : zi 115 11 = some (.aload_n 0, 1)) rfl ⟨by omega, by omega⟩ ?_
  refine Fr.iconst (by decide +kernel : zi 115 12 = some (.iconst 1, 1)) (by decide) ?_
  refine Fr.pZ (c := 0) (ci := 7) (k := 2) 2 (by decide +kernel : zi 115 13 = some (.putfield 275, 3)) (by decide +kernel) (by decide +kernel) (by decide) (by decide +kernel) (by decide) rfl ?_
  refine Fr.aldn (c := 1) (by decide +kernel : zi 115 16 = some (.aload_n 0, 1)) rfl ⟨by omega, by omega⟩ ?_
  refine Fr.gR (c := 0) (c2 := 2) (ci := 7) (k := 0) 0 (by decide +kernel : zi 115 17 = some (.getfield 10, 3)) (by decide +kernel) (by decide +kernel) (by decide +kernel) (by decide) rfl (fun q => q (0, 0, 2) (by decide +kernel)) ?_
  refine Fr.gI (c := 1) (ci := 0) (k := 1) (t := 0) 1 (by decide +kernel : zi 115 20 = some (.getfield 109, 3)) (by decide +kernel) (by decide +kernel) (by decide +kernel) (by decide) rfl ?_
  exact Fr.retI (by decide +kernel : zi 115 23 = some (.ireturn, 1)) (by decide +kernel) h
theorem e115 {xs : Nat → Int} {L : Nat} {d : Nat}  {s : Pl} {Q : Option AV → Pl → Prop} (hd : 1 ≤ d) (k : Fr xs L T0 106 (d - 1) 115 0 [some (rf 1)] [] s Q) : Ev xs L T0 106 d 115 [rf 1] s Q := Ev.of (by decide) _ rfl hd k
-- 116 X7_back
theorem f116_0 {xs : Nat → Int} {L : Nat} {d : Nat}  {s : Pl} {P : Int → Pl → Prop} (h : ((¬ s 0 2 = 0 → Ev xs L T0 106 d 1 [rf 2, rf 11] (zup s 0 9 0) (qv fun s1 => P (s1 1 1) s1)) ∧ (¬ (¬ s 0 2 = 0) → P (-3) s))) : Fr xs L T0 106 d 116 0 [some (rf 1)] [] s (qi P) := by
  refine Fr.aldn (c := 1) (by decide +kernel : zi 116 0 = some (.aload_n 0, 1)) rfl ⟨by omega, by omega⟩ ?_
  refine Fr.gI (c := 0) (ci := 7) (k := 2) (t := 2) 2 (by decide +kernel : zi 116 1 = some (.getfield 275, 3)) (by decide +kernel) (by decide +kernel) (by decide +kernel) (by decide) rfl ?_
  refine Fr.if0 (q := 10) (by decide +kernel : zi 116 4 = some (.ifCond .ne 6, 3)) (by decide +kernel) (fun g9 => ?_) (fun g9 => ?_)
  · have h := h.1 g9
    refine Fr.aldn (c := 1) (by decide +kernel : zi 116 10 = some (.aload_n 0, 1)) rfl ⟨by omega, by omega⟩ ?_
    refine Fr.iconst (by decide +kernel : zi 116 11 = some (.iconst 0, 1)) (by decide) ?_
    refine Fr.pZ (c := 0) (ci := 7) (k := 9) 9 (by decide +kernel : zi 116 12 = some (.putfield 98, 3)) (by decide +kernel) (by decide +kernel) (by decide) (by decide +kernel) (by decide) rfl ?_
    refine Fr.aldn (c := 1) (by decide +kernel : zi 116 15 = some (.aload_n 0, 1)) rfl ⟨by omega, by omega⟩ ?_
    refine Fr.gR (c := 0) (c2 := 2) (ci := 7) (k := 0) 0 (by decide +kernel : zi 116 16 = some (.getfield 10, 3)) (by decide +kernel) (by decide +kernel) (by decide +kernel) (by decide) rfl (fun q => q (0, 0, 2) (by decide +kernel)) ?_
    refine Fr.aldn (c := 1) (by decide +kernel : zi 116 19 = some (.aload_n 0, 1)) rfl ⟨by omega, by omega⟩ ?_
    refine Fr.gR (c := 0) (c2 := 11) (ci := 7) (k := 1) 1 (by decide +kernel : zi 116 20 = some (.getfield 16, 3)) (by decide +kernel) (by decide +kernel) (by decide +kernel) (by decide) rfl (fun q => q (0, 1, 11) (by decide +kernel)) ?_
    refine Fr.callV (y2 := 1) (na := 2) (as := [rf 2, rf 11]) (rest := []) (by decide +kernel : zi 116 23 = some (.invokevirtual 271, 3)) rfl (by decide +kernel) (by decide +kernel) rfl rfl (zok_V rfl (by decide) (by decide +kernel) (by decide +kernel) (zrecv_c (c := 1) (by decide) (by decide +kernel)) rfl (Nat.le_of_ble_eq_true rfl)) h (fun s1 h => ?_)
    refine Fr.aldn (c := 1) (by decide +kernel : zi 116 26 = some (.aload_n 0, 1)) rfl ⟨by omega, by omega⟩ ?_
    refine Fr.gR (c := 0) (c2 := 2) (ci := 7) (k := 0) 0 (by decide +kernel : zi 116 27 = some (.getfield 10, 3)) (by decide +kernel) (by decide +kernel) (by decide +kernel) (by decide) rfl (fun q => q (0, 0, 2) (by decide +kernel)) ?_
    refine Fr.gI (c := 1) (ci := 0) (k := 1) (t := 0) 1 (by decide +kernel : zi 116 30 = some (.getfield 109, 3)) (by decide +kernel) (by decide +kernel) (by decide +kernel) (by decide) rfl ?_
    exact Fr.retI (by decide +kernel : zi 116 33 = some (.ireturn, 1)) (by decide +kernel) h
  · have h := h.2 g9
    refine Fr.bipush (by decide +kernel : zi 116 7 = some (.bipush (-3), 2)) (by decide) ?_
    exact Fr.retI (by decide +kernel : zi 116 9 = some (.ireturn, 1)) (by decide +kernel) h
theorem e116 {xs : Nat → Int} {L : Nat} {d : Nat}  {s : Pl} {Q : Option AV → Pl → Prop} (hd : 1 ≤ d) (k : Fr xs L T0 106 (d - 1) 116 0 [some (rf 1)] [] s Q) : Ev xs L T0 106 d 116 [rf 1] s Q := Ev.of (by decide) _ rfl hd k
-- 117 X7_sheet
theorem f117_0 {xs : Nat → Int} {L : Nat} {d : Nat} {v1 : Int} {v2 : Int} {v3 : Int} {s : Pl} {P : Int → Pl → Prop} (h : Ev xs L T0 106 d 128 [it v1] s (qi fun r2 s1 => ((r2 = 0 → P (-2) s1) ∧ (¬ (r2 = 0) → ((v2 < (-1) → P (-2) s1) ∧ (¬ (v2 < (-1)) → ((3 ≤ v2 → P (-2) s1) ∧ (¬ (3 ≤ v2) → ((v2 = (-1) → Fr xs L T0 106 d 117 31 [some (rf 1), some (it v1), some (it v2), some (it v3)] [] s1 (qi P)) ∧ (¬ (v2 = (-1)) → ((v3 ≤ 40 → Fr xs L T0 106 d 117 31 [some (rf 1), some (it v1), some (it v2), some (it v3)] [] s1 (qi P)) ∧ (¬ (v3 ≤ 40) → P (-2) s1)))))))))))) : Fr xs L T0 106 d 117 0 [some (rf 1), some (it v1), some (it v2), some (it v3)] [] s (qi P) := by
  refine Fr.ildn (by decide +kernel : zi 117 0 = some (.iload_n 1, 1)) rfl ?_
  refine Fr.callI (y2 := 128) (na := 1) (as := [it v1]) (rest := []) (by decide +kernel : zi 117 1 = some (.invokestatic 278, 3)) rfl (by decide +kernel) (by decide +kernel) rfl rfl (zok_S rfl (by decide) (by decide +kernel) rfl (Nat.le_of_ble_eq_true rfl)) h (fun r2 s1 h => ?_)
  refine Fr.if0 (q := 28) (by decide +kernel : zi 117 4 = some (.ifCond .eq 24, 3)) (by decide +kernel) (fun g9 => ?_) (fun g9 => ?_)
  · have h := h.1 g9
    refine Fr.bipush (by decide +kernel : zi 117 28 = some (.bipush (-2), 2)) (by decide) ?_
    exact Fr.retI (by decide +kernel : zi 117 30 = some (.ireturn, 1)) (by decide +kernel) h
  · have h := h.2 g9
    refine Fr.ildn (by decide +kernel : zi 117 7 = some (.iload_n 2, 1)) rfl ?_
    refine Fr.iconst (by decide +kernel : zi 117 8 = some (.iconst (-1), 1)) (by decide) ?_
    refine Fr.if2 (q := 28) (by decide +kernel : zi 117 9 = some (.if_icmp .lt 19, 3)) (by decide +kernel) (fun g9 => ?_) (fun g9 => ?_)
    · have h := h.1 g9
      refine Fr.bipush (by decide +kernel : zi 117 28 = some (.bipush (-2), 2)) (by decide) ?_
      exact Fr.retI (by decide +kernel : zi 117 30 = some (.ireturn, 1)) (by decide +kernel) h
    · have h := h.2 g9
      refine Fr.ildn (by decide +kernel : zi 117 12 = some (.iload_n 2, 1)) rfl ?_
      refine Fr.iconst (by decide +kernel : zi 117 13 = some (.iconst 3, 1)) (by decide) ?_
      refine Fr.if2 (q := 28) (by decide +kernel : zi 117 14 = some (.if_icmp .ge 14, 3)) (by decide +kernel) (fun g9 => ?_) (fun g9 => ?_)
      · have h := h.1 g9
        refine Fr.bipush (by decide +kernel : zi 117 28 = some (.bipush (-2), 2)) (by decide) ?_
        exact Fr.retI (by decide +kernel : zi 117 30 = some (.ireturn, 1)) (by decide +kernel) h
      · have h := h.2 g9
        refine Fr.ildn (by decide +kernel : zi 117 17 = some (.iload_n 2, 1)) rfl ?_
        refine Fr.iconst (by decide +kernel : zi 117 18 = some (.iconst (-1), 1)) (by decide) ?_
        refine Fr.if2 (q := 31) (by decide +kernel : zi 117 19 = some (.if_icmp .eq 12, 3)) (by decide +kernel) (fun g9 => ?_) (fun g9 => ?_)
        · have h := h.1 g9
          exact h
        · have h := h.2 g9
          refine Fr.ildn (by decide +kernel : zi 117 22 = some (.iload_n 3, 1)) rfl ?_
          refine Fr.bipush (by decide +kernel : zi 117 23 = some (.bipush 40, 2)) (by decide) ?_
          refine Fr.if2 (q := 31) (by decide +kernel : zi 117 25 = some (.if_icmp .le 6, 3)) (by decide +kernel) (fun g9 => ?_) (fun g9 => ?_)
          · have h := h.1 g9
            exact h
          · have h := h.2 g9
            refine Fr.bipush (by decide +kernel : zi 117 28 = some (.bipush (-2), 2)) (by decide) ?_
            exact Fr.retI (by decide +kernel : zi 117 30 = some (.ireturn, 1)) (by decide +kernel) h
theorem e117 {xs : Nat → Int} {L : Nat} {d : Nat} {v1 : Int} {v2 : Int} {v3 : Int} {s : Pl} {Q : Option AV → Pl → Prop} (hd : 1 ≤ d) (k : Fr xs L T0 106 (d - 1) 117 0 [some (rf 1), some (it v1), some (it v2), some (it v3)] [] s Q) : Ev xs L T0 106 d 117 [rf 1, it v1, it v2, it v3] s Q := Ev.of (by decide) _ rfl hd k
theorem f117_31 {xs : Nat → Int} {L : Nat} {d : Nat} {v1 : Int} {v2 : Int} {v3 : Int} {s : Pl} {P : Int → Pl → Prop} (h : ((v2 = (-1) → Fr xs L T0 106 d 117 43 [some (rf 1), some (it v1), some (it v2), some (it v3)] [] s (qi P)) ∧ (¬ (v2 = (-1)) → ((0 ≤ v3 → Fr xs L T0 106 d 117 43 [some (rf 1), some (it v1), some (it v2), some (it v3)] [] s (qi P)) ∧ (¬ (0 ≤ v3) → P (-14) s))))) : Fr xs L T0 106 d 117 31 [some (rf 1), some (it v1), some (it v2), some (it v3)] [] s (qi P) := by
  refine Fr.ildn (by decide +kernel : zi 117 31 = some (.iload_n 2, 1)) rfl ?_
  refine Fr.iconst (by decide +kernel : zi 117 32 = some (.iconst (-1), 1)) (by decide) ?_
  refine Fr.if2 (q := 43) (by decide +kernel : zi 117 33 = some (.if_icmp .eq 10, 3)) (by decide +kernel) (fun g9 => ?_) (fun g9 => ?_)
  · have h := h.1 g9
    exact h
  · have h := h.2 g9
    refine Fr.ildn (by decide +kernel : zi 117 36 = some (.iload_n 3, 1)) rfl ?_
    refine Fr.if0 (q := 43) (by decide +kernel : zi 117 37 = some (.ifCond .ge 6, 3)) (by decide +kernel) (fun g9 => ?_) (fun g9 => ?_)
    · have h := h.1 g9
      exact h
    · have h := h.2 g9
      refine Fr.bipush (by decide +kernel : zi 117 40 = some (.bipush (-14), 2)) (by decide) ?_
      exact Fr.retI (by decide +kernel : zi 117 42 = some (.ireturn, 1)) (by decide +kernel) h
theorem f117_43 {xs : Nat → Int} {L : Nat} {d : Nat} {v1 : Int} {v2 : Int} {v3 : Int} {s : Pl} {P : Int → Pl → Prop} (h : (0 ≤ v1 ∧ v1 < 4) ∧ ∀ tq1 : Nat, (tq1 : Int) = v1 → tq1 < 4 → Ev xs L T0 106 d 67 [rf (45 + 2 * tq1 + 1), it v2, it v3] s (qv fun s2 => P 1 s2)) : Fr xs L T0 106 d 117 43 [some (rf 1), some (it v1), some (it v2), some (it v3)] [] s (qi P) := by
  refine Fr.aldn (c := 1) (by decide +kernel : zi 117 43 = some (.aload_n 0, 1)) rfl ⟨by omega, by omega⟩ ?_
  refine Fr.gR (c := 0) (c2 := 21) (ci := 7) (k := 10) 10 (by decide +kernel : zi 117 44 = some (.getfield 27, 3)) (by decide +kernel) (by decide +kernel) (by decide +kernel) (by decide) rfl (fun q => q (0, 10, 21) (by decide +kernel)) ?_
  refine Fr.ildn (by decide +kernel : zi 117 47 = some (.iload_n 1, 1)) rfl ?_
  obtain ⟨⟨g0, g1⟩, h⟩ := h
  obtain ⟨tq1, etq1⟩ : ∃ q : Nat, (q : Int) = v1 := ⟨(v1).toNat, by omega⟩
  have htq1 : tq1 < 4 := by omega
  have h := h tq1 etq1 htq1
  refine Fr.aald (c := 20) (c2 := (45 + 2 * tq1 + 1)) (N := 4) (K := 24) (by decide +kernel : zi 117 48 = some (.aaload, 1)) (by decide +kernel) (by decide) (by decide) g0 g1 (fun q => by rw [← etq1]; exact q _ (zsheet_T _ htq1).2) ?_
  refine Fr.ildn (by decide +kernel : zi 117 49 = some (.iload_n 2, 1)) rfl ?_
  refine Fr.ildn (by decide +kernel : zi 117 50 = some (.iload_n 3, 1)) rfl ?_
  refine Fr.callV (y2 := 67) (na := 3) (as := [rf (45 + 2 * tq1 + 1), it v2, it v3]) (rest := []) (by decide +kernel : zi 117 51 = some (.invokevirtual 281, 3)) rfl (by decide +kernel) (by decide +kernel) rfl rfl (zok_V rfl (by decide) (by decide +kernel) (by decide +kernel) (zrecv_c (c := (45 + 2 * tq1)) (by omega) (by rw [(zsheet_sh _ htq1).1]; decide +kernel)) rfl (Nat.le_of_ble_eq_true rfl)) h (fun s2 h => ?_)
  refine Fr.iconst (by decide +kernel : zi 117 54 = some (.iconst 1, 1)) (by decide) ?_
  exact Fr.retI (by decide +kernel : zi 117 55 = some (.ireturn, 1)) (by decide +kernel) h
-- 118 X7_cell
theorem f118_0 {xs : Nat → Int} {L : Nat} {d : Nat} {v1 : Int} {v2 : Int} {v3 : Int} {s : Pl} {P : Int → Pl → Prop} (h : Ev xs L T0 106 d 128 [it v1] s (qi fun r2 s1 => ((¬ r2 = 0 → (0 ≤ v1 ∧ v1 < 4) ∧ ∀ tq3 : Nat, (tq3 : Int) = v1 → tq3 < 4 → ((¬ s1 (45 + 2 * tq3) 0 = (-1) → (0 ≤ v1 ∧ v1 < 4) ∧ ∀ tq4 : Nat, (tq4 : Int) = v1 → tq4 < 4 → Ev xs L T0 106 d 68 [rf (45 + 2 * tq4 + 1), it v2] s1 (qi fun r6 s5 => ((¬ r6 = 0 → (0 ≤ v1 ∧ v1 < 4) ∧ ∀ tq7 : Nat, (tq7 : Int) = v1 → tq7 < 4 → Ev xs L T0 106 d 71 [rf (45 + 2 * tq7 + 1), it v2, it v3] s5 (qv fun s8 => P 1 s8)) ∧ (¬ (¬ r6 = 0) → P (-12) s5)))) ∧ (¬ (¬ s1 (45 + 2 * tq3) 0 = (-1)) → P (-11) s1))) ∧ (¬ (¬ r2 = 0) → P (-2) s1)))) : Fr xs L T0 106 d 118 0 [some (rf 1), some (it v1), some (it v2), some (it v3)] [] s (qi P) := by
  refine Fr.ildn (by decide +kernel : zi 118 0 = some (.iload_n 1, 1)) rfl ?_
  refine Fr.callI (y2 := 128) (na := 1) (as := [it v1]) (rest := []) (by decide +kernel : zi 118 1 = some (.invokestatic 278, 3)) rfl (by decide +kernel) (by decide +kernel) rfl rfl (zok_S rfl (by decide) (by decide +kernel) rfl (Nat.le_of_ble_eq_true rfl)) h (fun r2 s1 h => ?_)
  refine Fr.if0 (q := 10) (by decide +kernel : zi 118 4 = some (.ifCond .ne 6, 3)) (by decide +kernel) (fun g9 => ?_) (fun g9 => ?_)
  · have h := h.1 g9
    refine Fr.aldn (c := 1) (by decide +kernel : zi 118 10 = some (.aload_n 0, 1)) rfl ⟨by omega, by omega⟩ ?_
    refine Fr.gR (c := 0) (c2 := 21) (ci := 7) (k := 10) 10 (by decide +kernel : zi 118 11 = some (.getfield 27, 3)) (by decide +kernel) (by decide +kernel) (by decide +kernel) (by decide) rfl (fun q => q (0, 10, 21) (by decide +kernel)) ?_
    refine Fr.ildn (by decide +kernel : zi 118 14 = some (.iload_n 1, 1)) rfl ?_
    obtain ⟨⟨g0, g1⟩, h⟩ := h
    obtain ⟨tq3, etq3⟩ : ∃ q : Nat, (q : Int) = v1 := ⟨(v1).toNat, by omega⟩
    have htq3 : tq3 < 4 := by omega
    have h := h tq3 etq3 htq3
    refine Fr.aald (c := 20) (c2 := (45 + 2 * tq3 + 1)) (N := 4) (K := 24) (by decide +kernel : zi 118 15 = some (.aaload, 1)) (by decide +kernel) (by decide) (by decide) g0 g1 (fun q => by rw [← etq3]; exact q _ (zsheet_T _ htq3).2) ?_
    refine Fr.gI (c := (45 + 2 * tq3)) (ci := 5) (k := 0) (t := 0) 0 (by decide +kernel : zi 118 16 = some (.getfield 283, 3)) (by decide +kernel) (by decide +kernel) (by rw [(zsheet_sh _ htq3).1]) (by omega) rfl ?_
    refine Fr.iconst (by decide +kernel : zi 118 19 = some (.iconst (-1), 1)) (by decide) ?_
    refine Fr.if2 (q := 26) (by decide +kernel : zi 118 20 = some (.if_icmp .ne 6, 3)) (by decide +kernel) (fun g9 => ?_) (fun g9 => ?_)
    · have h := h.1 g9
      refine Fr.aldn (c := 1) (by decide +kernel : zi 118 26 = some (.aload_n 0, 1)) rfl ⟨by omega, by omega⟩ ?_
      refine Fr.gR (c := 0) (c2 := 21) (ci := 7) (k := 10) 10 (by decide +kernel : zi 118 27 = some (.getfield 27, 3)) (by decide +kernel) (by decide +kernel) (by decide +kernel) (by decide) rfl (fun q => q (0, 10, 21) (by decide +kernel)) ?_
      refine Fr.ildn (by decide +kernel : zi 118 30 = some (.iload_n 1, 1)) rfl ?_
      obtain ⟨⟨g0, g1⟩, h⟩ := h
      obtain ⟨tq4, etq4⟩ : ∃ q : Nat, (q : Int) = v1 := ⟨(v1).toNat, by omega⟩
      have htq4 : tq4 < 4 := by omega
      have h := h tq4 etq4 htq4
      refine Fr.aald (c := 20) (c2 := (45 + 2 * tq4 + 1)) (N := 4) (K := 24) (by decide +kernel : zi 118 31 = some (.aaload, 1)) (by decide +kernel) (by decide) (by decide) g0 g1 (fun q => by rw [← etq4]; exact q _ (zsheet_T _ htq4).2) ?_
      refine Fr.ildn (by decide +kernel : zi 118 32 = some (.iload_n 2, 1)) rfl ?_
      refine Fr.callI (y2 := 68) (na := 2) (as := [rf (45 + 2 * tq4 + 1), it v2]) (rest := []) (by decide +kernel : zi 118 33 = some (.invokevirtual 286, 3)) rfl (by decide +kernel) (by decide +kernel) rfl rfl (zok_V rfl (by decide) (by decide +kernel) (by decide +kernel) (zrecv_c (c := (45 + 2 * tq4)) (by omega) (by rw [(zsheet_sh _ htq4).1]; decide +kernel)) rfl (Nat.le_of_ble_eq_true rfl)) h (fun r6 s5 h => ?_)
      refine Fr.if0 (q := 42) (by decide +kernel : zi 118 36 = some (.ifCond .ne 6, 3)) (by decide +kernel) (fun g9 => ?_) (fun g9 => ?_)
      · have h := h.1 g9
        refine Fr.aldn (c := 1) (by decide +kernel : zi 118 42 = some (.aload_n 0, 1)) rfl ⟨by omega, by omega⟩ ?_
        refine Fr.gR (c := 0) (c2 := 21) (ci := 7) (k := 10) 10 (by decide +kernel : zi 118 43 = some (.getfield 27, 3)) (by decide +kernel) (by decide +kernel) (by decide +kernel) (by decide) rfl (fun q => q (0, 10, 21) (by decide +kernel)) ?_
        refine Fr.ildn (by decide +kernel : zi 118 46 = some (.iload_n 1, 1)) rfl ?_
        obtain ⟨⟨g0, g1⟩, h⟩ := h
        obtain ⟨tq7, etq7⟩ : ∃ q : Nat, (q : Int) = v1 := ⟨(v1).toNat, by omega⟩
        have htq7 : tq7 < 4 := by omega
        have h := h tq7 etq7 htq7
        refine Fr.aald (c := 20) (c2 := (45 + 2 * tq7 + 1)) (N := 4) (K := 24) (by decide +kernel : zi 118 47 = some (.aaload, 1)) (by decide +kernel) (by decide) (by decide) g0 g1 (fun q => by rw [← etq7]; exact q _ (zsheet_T _ htq7).2) ?_
        refine Fr.ildn (by decide +kernel : zi 118 48 = some (.iload_n 2, 1)) rfl ?_
        refine Fr.ildn (by decide +kernel : zi 118 49 = some (.iload_n 3, 1)) rfl ?_
        refine Fr.callV (y2 := 71) (na := 3) (as := [rf (45 + 2 * tq7 + 1), it v2, it v3]) (rest := []) (by decide +kernel : zi 118 50 = some (.invokevirtual 287, 3)) rfl (by decide +kernel) (by decide +kernel) rfl rfl (zok_V rfl (by decide) (by decide +kernel) (by decide +kernel) (zrecv_c (c := (45 + 2 * tq7)) (by omega) (by rw [(zsheet_sh _ htq7).1]; decide +kernel)) rfl (Nat.le_of_ble_eq_true rfl)) h (fun s8 h => ?_)
        refine Fr.iconst (by decide +kernel : zi 118 53 = some (.iconst 1, 1)) (by decide) ?_
        exact Fr.retI (by decide +kernel : zi 118 54 = some (.ireturn, 1)) (by decide +kernel) h
      · have h := h.2 g9
        refine Fr.bipush (by decide +kernel : zi 118 39 = some (.bipush (-12), 2)) (by decide) ?_
        exact Fr.retI (by decide +kernel : zi 118 41 = some (.ireturn, 1)) (by decide +kernel) h
    · have h := h.2 g9
      refine Fr.bipush (by decide +kernel : zi 118 23 = some (.bipush (-11), 2)) (by decide) ?_
      exact Fr.retI (by decide +kernel : zi 118 25 = some (.ireturn, 1)) (by decide +kernel) h
  · have h := h.2 g9
    refine Fr.bipush (by decide +kernel : zi 118 7 = some (.bipush (-2), 2)) (by decide) ?_
    exact Fr.retI (by decide +kernel : zi 118 9 = some (.ireturn, 1)) (by decide +kernel) h
theorem e118 {xs : Nat → Int} {L : Nat} {d : Nat} {v1 : Int} {v2 : Int} {v3 : Int} {s : Pl} {Q : Option AV → Pl → Prop} (hd : 1 ≤ d) (k : Fr xs L T0 106 (d - 1) 118 0 [some (rf 1), some (it v1), some (it v2), some (it v3)] [] s Q) : Ev xs L T0 106 d 118 [rf 1, it v1, it v2, it v3] s Q := Ev.of (by decide) _ rfl hd k
-- 119 X7_copy
theorem f119_0 {xs : Nat → Int} {L : Nat} {d : Nat} {v1 : Int} {v2 : Int} {v3 : Int} {v4 : Int} {v5 : Int} {s : Pl} {P : Int → Pl → Prop} (h : Ev xs L T0 106 d 128 [it v1] s (qi fun r2 s1 => ((r2 = 0 → P (-2) s1) ∧ (¬ (r2 = 0) → Ev xs L T0 106 d 128 [it v3] s1 (qi fun r4 s3 => ((¬ r4 = 0 → (0 ≤ v1 ∧ v1 < 4) ∧ ∀ tq5 : Nat, (tq5 : Int) = v1 → tq5 < 4 → (0 ≤ v3 ∧ v3 < 4) ∧ ∀ tq6 : Nat, (tq6 : Int) = v3 → tq6 < 4 → ((s3 (45 + 2 * tq5) 0 = (-1) → P (-11) s3) ∧ (¬ (s3 (45 + 2 * tq5) 0 = (-1)) → ((¬ s3 (45 + 2 * tq6) 0 = (-1) → ((s3 (45 + 2 * tq5) 0 = s3 (45 + 2 * tq6) 0 → Ev xs L T0 106 d 69 [rf (45 + 2 * tq5 + 1), it v2, it v5] s3 (qi fun r8 s7 => ((r8 = 0 → P (-12) s7) ∧ (¬ (r8 = 0) → Ev xs L T0 106 d 69 [rf (45 + 2 * tq6 + 1), it v4, it v5] s7 (qi fun r10 s9 => ((¬ r10 = 0 → (0 ≤ v2 ∧ 0 ≤ v4 ∧ 0 ≤ v5 ∧ v2 + v5 ≤ 40 ∧ v4 + v5 ≤ 40) ∧ P v5 (zcopy s9 (46 + 2 * tq5) v2 (46 + 2 * tq6) v4 v5)) ∧ (¬ (¬ r10 = 0) → P (-12) s9))))))) ∧ (¬ (s3 (45 + 2 * tq5) 0 = s3 (45 + 2 * tq6) 0) → P (-13) s3))) ∧ (¬ (¬ s3 (45 + 2 * tq6) 0 = (-1)) → P (-11) s3))))) ∧ (¬ (¬ r4 = 0) → P (-2) s3))))))) : Fr xs L T0 106 d 119 0 [some (rf 1), some (it v1), some (it v2), some (it v3), some (it v4), some (it v5), none, none] [] s (qi P) := by
  refine Fr.ildn (by decide +kernel : zi 119 0 = some (.iload_n 1, 1)) rfl ?_
  refine Fr.callI (y2 := 128) (na := 1) (as := [it v1]) (rest := []) (by decide +kernel : zi 119 1 = some (.invokestatic 278, 3)) rfl (by decide +kernel) (by decide +kernel) rfl rfl (zok_S rfl (by decide) (by decide +kernel) rfl (Nat.le_of_ble_eq_true rfl)) h (fun r2 s1 h => ?_)
  refine Fr.if0 (q := 14) (by decide +kernel : zi 119 4 = some (.ifCond .eq 10, 3)) (by decide +kernel) (fun g9 => ?_) (fun g9 => ?_)
  · have h := h.1 g9
    refine Fr.bipush (by decide +kernel : zi 119 14 = some (.bipush (-2), 2)) (by decide) ?_
    exact Fr.retI (by decide +kernel : zi 119 16 = some (.ireturn, 1)) (by decide +kernel) h
  · have h := h.2 g9
    refine Fr.ildn (by decide +kernel : zi 119 7 = some (.iload_n 3, 1)) rfl ?_
    refine Fr.callI (y2 := 128) (na := 1) (as := [it v3]) (rest := []) (by decide +kernel : zi 119 8 = some (.invokestatic 278, 3)) rfl (by decide +kernel) (by decide +kernel) rfl rfl (zok_S rfl (by decide) (by decide +kernel) rfl (Nat.le_of_ble_eq_true rfl)) h (fun r4 s3 h => ?_)
    refine Fr.if0 (q := 17) (by decide +kernel : zi 119 11 = some (.ifCond .ne 6, 3)) (by decide +kernel) (fun g9 => ?_) (fun g9 => ?_)
    · have h := h.1 g9
      refine Fr.aldn (c := 1) (by decide +kernel : zi 119 17 = some (.aload_n 0, 1)) rfl ⟨by omega, by omega⟩ ?_
      refine Fr.gR (c := 0) (c2 := 21) (ci := 7) (k := 10) 10 (by decide +kernel : zi 119 18 = some (.getfield 27, 3)) (by decide +kernel) (by decide +kernel) (by decide +kernel) (by decide) rfl (fun q => q (0, 10, 21) (by decide +kernel)) ?_
      refine Fr.ildn (by decide +kernel : zi 119 21 = some (.iload_n 1, 1)) rfl ?_
      obtain ⟨⟨g0, g1⟩, h⟩ := h
      obtain ⟨tq5, etq5⟩ : ∃ q : Nat, (q : Int) = v1 := ⟨(v1).toNat, by omega⟩
      have htq5 : tq5 < 4 := by omega
      have h := h tq5 etq5 htq5
      refine Fr.aald (c := 20) (c2 := (45 + 2 * tq5 + 1)) (N := 4) (K := 24) (by decide +kernel : zi 119 22 = some (.aaload, 1)) (by decide +kernel) (by decide) (by decide) g0 g1 (fun q => by rw [← etq5]; exact q _ (zsheet_T _ htq5).2) ?_
      refine Fr.ast (lv2 := [some (rf 1), some (it v1), some (it v2), some (it v3), some (it v4), some (it v5), some (rf (45 + 2 * tq5 + 1)), none]) (by decide +kernel : zi 119 23 = some (.astore 6, 2)) (Nat.le_of_ble_eq_true rfl) ⟨by omega, by omega⟩ rfl ?_
      refine Fr.aldn (c := 1) (by decide +kernel : zi 119 25 = some (.aload_n 0, 1)) rfl ⟨by omega, by omega⟩ ?_
      refine Fr.gR (c := 0) (c2 := 21) (ci := 7) (k := 10) 10 (by decide +kernel : zi 119 26 = some (.getfield 27, 3)) (by decide +kernel) (by decide +kernel) (by decide +kernel) (by decide) rfl (fun q => q (0, 10, 21) (by decide +kernel)) ?_
      refine Fr.ildn (by decide +kernel : zi 119 29 = some (.iload_n 3, 1)) rfl ?_
      obtain ⟨⟨g0, g1⟩, h⟩ := h
      obtain ⟨tq6, etq6⟩ : ∃ q : Nat, (q : Int) = v3 := ⟨(v3).toNat, by omega⟩
      have htq6 : tq6 < 4 := by omega
      have h := h tq6 etq6 htq6
      refine Fr.aald (c := 20) (c2 := (45 + 2 * tq6 + 1)) (N := 4) (K := 24) (by decide +kernel : zi 119 30 = some (.aaload, 1)) (by decide +kernel) (by decide) (by decide) g0 g1 (fun q => by rw [← etq6]; exact q _ (zsheet_T _ htq6).2) ?_
      refine Fr.ast (lv2 := [some (rf 1), some (it v1), some (it v2), some (it v3), some (it v4), some (it v5), some (rf (45 + 2 * tq5 + 1)), some (rf (45 + 2 * tq6 + 1))]) (by decide +kernel : zi 119 31 = some (.astore 7, 2)) (Nat.le_of_ble_eq_true rfl) ⟨by omega, by omega⟩ rfl ?_
      refine Fr.ald (c := (45 + 2 * tq5 + 1)) (by decide +kernel : zi 119 33 = some (.aload 6, 2)) rfl ⟨by omega, by omega⟩ ?_
      refine Fr.gI (c := (45 + 2 * tq5)) (ci := 5) (k := 0) (t := 0) 0 (by decide +kernel : zi 119 35 = some (.getfield 283, 3)) (by decide +kernel) (by decide +kernel) (by rw [(zsheet_sh _ htq5).1]) (by omega) rfl ?_
      refine Fr.iconst (by decide +kernel : zi 119 38 = some (.iconst (-1), 1)) (by decide) ?_
      refine Fr.if2 (q := 51) (by decide +kernel : zi 119 39 = some (.if_icmp .eq 12, 3)) (by decide +kernel) (fun g9 => ?_) (fun g9 => ?_)
      · have h := h.1 g9
        refine Fr.bipush (by decide +kernel : zi 119 51 = some (.bipush (-11), 2)) (by decide) ?_
        exact Fr.retI (by decide +kernel : zi 119 53 = some (.ireturn, 1)) (by decide +kernel) h
      · have h := h.2 g9
        refine Fr.ald (c := (45 + 2 * tq6 + 1)) (by decide +kernel : zi 119 42 = some (.aload 7, 2)) rfl ⟨by omega, by omega⟩ ?_
        refine Fr.gI (c := (45 + 2 * tq6)) (ci := 5) (k := 0) (t := 0) 0 (by decide +kernel : zi 119 44 = some (.getfield 283, 3)) (by decide +kernel) (by decide +kernel) (by rw [(zsheet_sh _ htq6).1]) (by omega) rfl ?_
        refine Fr.iconst (by decide +kernel : zi 119 47 = some (.iconst (-1), 1)) (by decide) ?_
        refine Fr.if2 (q := 54) (by decide +kernel : zi 119 48 = some (.if_icmp .ne 6, 3)) (by decide +kernel) (fun g9 => ?_) (fun g9 => ?_)
        · have h := h.1 g9
          refine Fr.ald (c := (45 + 2 * tq5 + 1)) (by decide +kernel : zi 119 54 = some (.aload 6, 2)) rfl ⟨by omega, by omega⟩ ?_
          refine Fr.gI (c := (45 + 2 * tq5)) (ci := 5) (k := 0) (t := 0) 0 (by decide +kernel : zi 119 56 = some (.getfield 283, 3)) (by decide +kernel) (by decide +kernel) (by rw [(zsheet_sh _ htq5).1]) (by omega) rfl ?_
          refine Fr.ald (c := (45 + 2 * tq6 + 1)) (by decide +kernel : zi 119 59 = some (.aload 7, 2)) rfl ⟨by omega, by omega⟩ ?_
          refine Fr.gI (c := (45 + 2 * tq6)) (ci := 5) (k := 0) (t := 0) 0 (by decide +kernel : zi 119 61 = some (.getfield 283, 3)) (by decide +kernel) (by decide +kernel) (by rw [(zsheet_sh _ htq6).1]) (by omega) rfl ?_
          refine Fr.if2 (q := 70) (by decide +kernel : zi 119 64 = some (.if_icmp .eq 6, 3)) (by decide +kernel) (fun g9 => ?_) (fun g9 => ?_)
          · have h := h.1 g9
            refine Fr.ald (c := (45 + 2 * tq5 + 1)) (by decide +kernel : zi 119 70 = some (.aload 6, 2)) rfl ⟨by omega, by omega⟩ ?_
            refine Fr.ildn (by decide +kernel : zi 119 72 = some (.iload_n 2, 1)) rfl ?_
            refine Fr.ild (by decide +kernel : zi 119 73 = some (.iload 5, 2)) rfl ?_
            refine Fr.callI (y2 := 69) (na := 3) (as := [rf (45 + 2 * tq5 + 1), it v2, it v5]) (rest := []) (by decide +kernel : zi 119 75 = some (.invokevirtual 290, 3)) rfl (by decide +kernel) (by decide +kernel) rfl rfl (zok_V rfl (by decide) (by decide +kernel) (by decide +kernel) (zrecv_c (c := (45 + 2 * tq5)) (by omega) (by rw [(zsheet_sh _ htq5).1]; decide +kernel)) rfl (Nat.le_of_ble_eq_true rfl)) h (fun r8 s7 h => ?_)
            refine Fr.if0 (q := 93) (by decide +kernel : zi 119 78 = some (.ifCond .eq 15, 3)) (by decide +kernel) (fun g9 => ?_) (fun g9 => ?_)
            · have h := h.1 g9
              refine Fr.bipush (by decide +kernel : zi 119 93 = some (.bipush (-12), 2)) (by decide) ?_
              exact Fr.retI (by decide +kernel : zi 119 95 = some (.ireturn, 1)) (by decide +kernel) h
            · have h := h.2 g9
              refine Fr.ald (c := (45 + 2 * tq6 + 1)) (by decide +kernel : zi 119 81 = some (.aload 7, 2)) rfl ⟨by omega, by omega⟩ ?_
              refine Fr.ild (by decide +kernel : zi 119 83 = some (.iload 4, 2)) rfl ?_
              refine Fr.ild (by decide +kernel : zi 119 85 = some (.iload 5, 2)) rfl ?_
              refine Fr.callI (y2 := 69) (na := 3) (as := [rf (45 + 2 * tq6 + 1), it v4, it v5]) (rest := []) (by decide +kernel : zi 119 87 = some (.invokevirtual 290, 3)) rfl (by decide +kernel) (by decide +kernel) rfl rfl (zok_V rfl (by decide) (by decide +kernel) (by decide +kernel) (zrecv_c (c := (45 + 2 * tq6)) (by omega) (by rw [(zsheet_sh _ htq6).1]; decide +kernel)) rfl (Nat.le_of_ble_eq_true rfl)) h (fun r10 s9 h => ?_)
              refine Fr.if0 (q := 96) (by decide +kernel : zi 119 90 = some (.ifCond .ne 6, 3)) (by decide +kernel) (fun g9 => ?_) (fun g9 => ?_)
              · have h := h.1 g9
                refine Fr.ald (c := (45 + 2 * tq5 + 1)) (by decide +kernel : zi 119 96 = some (.aload 6, 2)) rfl ⟨by omega, by omega⟩ ?_
                refine Fr.gR (c := (45 + 2 * tq5)) (c2 := (46 + 2 * tq5 + 1)) (ci := 5) (k := 2) 2 (by decide +kernel : zi 119 98 = some (.getfield 293, 3)) (by decide +kernel) (by decide +kernel) (by rw [(zsheet_sh _ htq5).1]) (by omega) rfl (fun q => q _ (zsheet_T _ htq5).1) ?_
                refine Fr.ildn (by decide +kernel : zi 119 101 = some (.iload_n 2, 1)) rfl ?_
                refine Fr.ald (c := (45 + 2 * tq6 + 1)) (by decide +kernel : zi 119 102 = some (.aload 7, 2)) rfl ⟨by omega, by omega⟩ ?_
                refine Fr.gR (c := (45 + 2 * tq6)) (c2 := (46 + 2 * tq6 + 1)) (ci := 5) (k := 2) 2 (by decide +kernel : zi 119 104 = some (.getfield 293, 3)) (by decide +kernel) (by decide +kernel) (by rw [(zsheet_sh _ htq6).1]) (by omega) rfl (fun q => q _ (zsheet_T _ htq6).1) ?_
                refine Fr.ild (by decide +kernel : zi 119 107 = some (.iload 4, 2)) rfl ?_
                refine Fr.ild (by decide +kernel : zi 119 109 = some (.iload 5, 2)) rfl ?_
                obtain ⟨⟨g0, g1, g2, g3, g4⟩, h⟩ := h
                refine Fr.copy (c1 := (46 + 2 * tq5)) (c2 := (46 + 2 * tq6)) (N1 := 40) (N2 := 40) (by decide +kernel : zi 119 111 = some (.invokestatic 296, 3)) (by decide +kernel) (by decide +kernel) (by decide +kernel) (zsheet_sh _ htq5).2 (zsheet_sh _ htq6).2 (by omega) (by omega) g0 g1 g2 g3 g4 (Nat.le_of_ble_eq_true rfl) ?_
                refine Fr.ild (by decide +kernel : zi 119 114 = some (.iload 5, 2)) rfl ?_
                exact Fr.retI (by decide +kernel : zi 119 116 = some (.ireturn, 1)) (by decide +kernel) h
              · have h := h.2 g9
                refine Fr.bipush (by decide +kernel : zi 119 93 = some (.bipush (-12), 2)) (by decide) ?_
                exact Fr.retI (by decide +kernel : zi 119 95 = some (.ireturn, 1)) (by decide +kernel) h
          · have h := h.2 g9
            refine Fr.bipush (by decide +kernel : zi 119 67 = some (.bipush (-13), 2)) (by decide) ?_
            exact Fr.retI (by decide +kernel : zi 119 69 = some (.ireturn, 1)) (by decide +kernel) h
        · have h := h.2 g9
          refine Fr.bipush (by decide +kernel : zi 119 51 = some (.bipush (-11), 2)) (by decide) ?_
          exact Fr.retI (by decide +kernel : zi 119 53 = some (.ireturn, 1)) (by decide +kernel) h
    · have h := h.2 g9
      refine Fr.bipush (by decide +kernel : zi 119 14 = some (.bipush (-2), 2)) (by decide) ?_
      exact Fr.retI (by decide +kernel : zi 119 16 = some (.ireturn, 1)) (by decide +kernel) h
theorem e119 {xs : Nat → Int} {L : Nat} {d : Nat} {v1 : Int} {v2 : Int} {v3 : Int} {v4 : Int} {v5 : Int} {s : Pl} {Q : Option AV → Pl → Prop} (hd : 1 ≤ d) (k : Fr xs L T0 106 (d - 1) 119 0 [some (rf 1), some (it v1), some (it v2), some (it v3), some (it v4), some (it v5), none, none] [] s Q) : Ev xs L T0 106 d 119 [rf 1, it v1, it v2, it v3, it v4, it v5] s Q := Ev.of (by decide) _ rfl hd k
-- 120 X7_peopleBy
theorem f120_0 {xs : Nat → Int} {L : Nat} {d : Nat} {v1 : Int} {v2 : Int} {v3 : Int} {v4 : Int} {s : Pl} {P : Int → Pl → Prop} (h : Ev xs L T0 106 d 128 [it v1] s (qi fun r2 s1 => ((r2 = 0 → P (-2) s1) ∧ (¬ (r2 = 0) → ((v2 < 0 → P (-2) s1) ∧ (¬ (v2 < 0) → ((3 ≤ v2 → P (-2) s1) ∧ (¬ (3 ≤ v2) → ((v4 < 0 → P (-2) s1) ∧ (¬ (v4 < 0) → ((v4 ≤ 6 → (0 ≤ v1 ∧ v1 < 4) ∧ ∀ tq3 : Nat, (tq3 : Int) = v1 → tq3 < 4 → ((¬ s1 (45 + 2 * tq3) 0 = (-1) → ((s1 (45 + 2 * tq3) 0 = v2 → Fr xs L T0 106 d 120 69 [some (rf 1), some (it v1), some (it v2), some (it v3), some (it v4), some (rf (45 + 2 * tq3 + 1)), some (it 0), some (it 0), none] [] s1 (qi P)) ∧ (¬ (s1 (45 + 2 * tq3) 0 = v2) → P (-13) s1))) ∧ (¬ (¬ s1 (45 + 2 * tq3) 0 = (-1)) → P (-11) s1))) ∧ (¬ (v4 ≤ 6) → P (-2) s1)))))))))))) : Fr xs L T0 106 d 120 0 [some (rf 1), some (it v1), some (it v2), some (it v3), some (it v4), none, none, none, none] [] s (qi P) := by
  refine Fr.ildn (by decide +kernel : zi 120 0 = some (.iload_n 1, 1)) rfl ?_
  refine Fr.callI (y2 := 128) (na := 1) (as := [it v1]) (rest := []) (by decide +kernel : zi 120 1 = some (.invokestatic 278, 3)) rfl (by decide +kernel) (by decide +kernel) rfl rfl (zok_S rfl (by decide) (by decide +kernel) rfl (Nat.le_of_ble_eq_true rfl)) h (fun r2 s1 h => ?_)
  refine Fr.if0 (q := 28) (by decide +kernel : zi 120 4 = some (.ifCond .eq 24, 3)) (by decide +kernel) (fun g9 => ?_) (fun g9 => ?_)
  · have h := h.1 g9
    refine Fr.bipush (by decide +kernel : zi 120 28 = some (.bipush (-2), 2)) (by decide) ?_
    exact Fr.retI (by decide +kernel : zi 120 30 = some (.ireturn, 1)) (by decide +kernel) h
  · have h := h.2 g9
    refine Fr.ildn (by decide +kernel : zi 120 7 = some (.iload_n 2, 1)) rfl ?_
    refine Fr.if0 (q := 28) (by decide +kernel : zi 120 8 = some (.ifCond .lt 20, 3)) (by decide +kernel) (fun g9 => ?_) (fun g9 => ?_)
    · have h := h.1 g9
      refine Fr.bipush (by decide +kernel : zi 120 28 = some (.bipush (-2), 2)) (by decide) ?_
      exact Fr.retI (by decide +kernel : zi 120 30 = some (.ireturn, 1)) (by decide +kernel) h
    · have h := h.2 g9
      refine Fr.ildn (by decide +kernel : zi 120 11 = some (.iload_n 2, 1)) rfl ?_
      refine Fr.iconst (by decide +kernel : zi 120 12 = some (.iconst 3, 1)) (by decide) ?_
      refine Fr.if2 (q := 28) (by decide +kernel : zi 120 13 = some (.if_icmp .ge 15, 3)) (by decide +kernel) (fun g9 => ?_) (fun g9 => ?_)
      · have h := h.1 g9
        refine Fr.bipush (by decide +kernel : zi 120 28 = some (.bipush (-2), 2)) (by decide) ?_
        exact Fr.retI (by decide +kernel : zi 120 30 = some (.ireturn, 1)) (by decide +kernel) h
      · have h := h.2 g9
        refine Fr.ild (by decide +kernel : zi 120 16 = some (.iload 4, 2)) rfl ?_
        refine Fr.if0 (q := 28) (by decide +kernel : zi 120 18 = some (.ifCond .lt 10, 3)) (by decide +kernel) (fun g9 => ?_) (fun g9 => ?_)
        · have h := h.1 g9
          refine Fr.bipush (by decide +kernel : zi 120 28 = some (.bipush (-2), 2)) (by decide) ?_
          exact Fr.retI (by decide +kernel : zi 120 30 = some (.ireturn, 1)) (by decide +kernel) h
        · have h := h.2 g9
          refine Fr.ild (by decide +kernel : zi 120 21 = some (.iload 4, 2)) rfl ?_
          refine Fr.bipush (by decide +kernel : zi 120 23 = some (.bipush 6, 2)) (by decide) ?_
          refine Fr.if2 (q := 31) (by decide +kernel : zi 120 25 = some (.if_icmp .le 6, 3)) (by decide +kernel) (fun g9 => ?_) (fun g9 => ?_)
          · have h := h.1 g9
            refine Fr.aldn (c := 1) (by decide +kernel : zi 120 31 = some (.aload_n 0, 1)) rfl ⟨by omega, by omega⟩ ?_
            refine Fr.gR (c := 0) (c2 := 21) (ci := 7) (k := 10) 10 (by decide +kernel : zi 120 32 = some (.getfield 27, 3)) (by decide +kernel) (by decide +kernel) (by decide +kernel) (by decide) rfl (fun q => q (0, 10, 21) (by decide +kernel)) ?_
            refine Fr.ildn (by decide +kernel : zi 120 35 = some (.iload_n 1, 1)) rfl ?_
            obtain ⟨⟨g0, g1⟩, h⟩ := h
            obtain ⟨tq3, etq3⟩ : ∃ q : Nat, (q : Int) = v1 := ⟨(v1).toNat, by omega⟩
            have htq3 : tq3 < 4 := by omega
            have h := h tq3 etq3 htq3
            refine Fr.aald (c := 20) (c2 := (45 + 2 * tq3 + 1)) (N := 4) (K := 24) (by decide +kernel : zi 120 36 = some (.aaload, 1)) (by decide +kernel) (by decide) (by decide) g0 g1 (fun q => by rw [← etq3]; exact q _ (zsheet_T _ htq3).2) ?_
            refine Fr.ast (lv2 := [some (rf 1), some (it v1), some (it v2), some (it v3), some (it v4), some (rf (45 + 2 * tq3 + 1)), none, none, none]) (by decide +kernel : zi 120 37 = some (.astore 5, 2)) (Nat.le_of_ble_eq_true rfl) ⟨by omega, by omega⟩ rfl ?_
            refine Fr.ald (c := (45 + 2 * tq3 + 1)) (by decide +kernel : zi 120 39 = some (.aload 5, 2)) rfl ⟨by omega, by omega⟩ ?_
            refine Fr.gI (c := (45 + 2 * tq3)) (ci := 5) (k := 0) (t := 0) 0 (by decide +kernel : zi 120 41 = some (.getfield 283, 3)) (by decide +kernel) (by decide +kernel) (by rw [(zsheet_sh _ htq3).1]) (by omega) rfl ?_
            refine Fr.iconst (by decide +kernel : zi 120 44 = some (.iconst (-1), 1)) (by decide) ?_
            refine Fr.if2 (q := 51) (by decide +kernel : zi 120 45 = some (.if_icmp .ne 6, 3)) (by decide +kernel) (fun g9 => ?_) (fun g9 => ?_)
            · have h := h.1 g9
              refine Fr.ald (c := (45 + 2 * tq3 + 1)) (by decide +kernel : zi 120 51 = some (.aload 5, 2)) rfl ⟨by omega, by omega⟩ ?_
              refine Fr.gI (c := (45 + 2 * tq3)) (ci := 5) (k := 0) (t := 0) 0 (by decide +kernel : zi 120 53 = some (.getfield 283, 3)) (by decide +kernel) (by decide +kernel) (by rw [(zsheet_sh _ htq3).1]) (by omega) rfl ?_
              refine Fr.ildn (by decide +kernel : zi 120 56 = some (.iload_n 2, 1)) rfl ?_
              refine Fr.if2 (q := 63) (by decide +kernel : zi 120 57 = some (.if_icmp .eq 6, 3)) (by decide +kernel) (fun g9 => ?_) (fun g9 => ?_)
              · have h := h.1 g9
                refine Fr.iconst (by decide +kernel : zi 120 63 = some (.iconst 0, 1)) (by decide) ?_
                refine Fr.ist (lv2 := [some (rf 1), some (it v1), some (it v2), some (it v3), some (it v4), some (rf (45 + 2 * tq3 + 1)), some (it 0), none, none]) (by decide +kernel : zi 120 64 = some (.istore 6, 2)) (Nat.le_of_ble_eq_true rfl) rfl ?_
                refine Fr.iconst (by decide +kernel : zi 120 66 = some (.iconst 0, 1)) (by decide) ?_
                refine Fr.ist (lv2 := [some (rf 1), some (it v1), some (it v2), some (it v3), some (it v4), some (rf (45 + 2 * tq3 + 1)), some (it 0), some (it 0), none]) (by decide +kernel : zi 120 67 = some (.istore 7, 2)) (Nat.le_of_ble_eq_true rfl) rfl ?_
                exact h
              · have h := h.2 g9
                refine Fr.bipush (by decide +kernel : zi 120 60 = some (.bipush (-13), 2)) (by decide) ?_
                exact Fr.retI (by decide +kernel : zi 120 62 = some (.ireturn, 1)) (by decide +kernel) h
            · have h := h.2 g9
              refine Fr.bipush (by decide +kernel : zi 120 48 = some (.bipush (-11), 2)) (by decide) ?_
              exact Fr.retI (by decide +kernel : zi 120 50 = some (.ireturn, 1)) (by decide +kernel) h
          · have h := h.2 g9
            refine Fr.bipush (by decide +kernel : zi 120 28 = some (.bipush (-2), 2)) (by decide) ?_
            exact Fr.retI (by decide +kernel : zi 120 30 = some (.ireturn, 1)) (by decide +kernel) h
theorem e120 {xs : Nat → Int} {L : Nat} {d : Nat} {v1 : Int} {v2 : Int} {v3 : Int} {v4 : Int} {s : Pl} {Q : Option AV → Pl → Prop} (hd : 1 ≤ d) (k : Fr xs L T0 106 (d - 1) 120 0 [some (rf 1), some (it v1), some (it v2), some (it v3), some (it v4), none, none, none, none] [] s Q) : Ev xs L T0 106 d 120 [rf 1, it v1, it v2, it v3, it v4] s Q := Ev.of (by decide) _ rfl hd k
theorem f120_69 {xs : Nat → Int} {L : Nat} {d : Nat} {v1 : Int} {v2 : Int} {v3 : Int} {v4 : Int} {t5 : Nat} {v6 : Int} {v7 : Int} {w8 : Option AV} {s : Pl} {P : Int → Pl → Prop} (ht5 : t5 < 4) (h : ((v4 ≤ v7 → P v6 s) ∧ (¬ (v4 ≤ v7) → Ev xs L T0 106 d 69 [rf (45 + 2 * t5 + 1), it (zw (v3 + (zw (4 * v7)))), it 4] s (qi fun r2 s1 => ((¬ r2 = 0 → Ev xs L T0 106 d 70 [rf (45 + 2 * t5 + 1), it (zw (v3 + (zw (4 * v7))))] s1 (qi fun r4 s3 => Ev xs L T0 106 d 70 [rf (45 + 2 * t5 + 1), it (zw ((zw (v3 + (zw (4 * v7)))) + 1))] s3 (qi fun r6 s5 => Ev xs L T0 106 d 70 [rf (45 + 2 * t5 + 1), it (zw ((zw (v3 + (zw (4 * v7)))) + 2))] s5 (qi fun r8 s7 => Ev xs L T0 106 d 70 [rf (45 + 2 * t5 + 1), it (zw ((zw (v3 + (zw (4 * v7)))) + 3))] s7 (qi fun r10 s9 => Ev xs L T0 106 d 90 [rf 1, it r4, it r6, it r8, it r10] s9 (qi fun r12 s11 => ((r12 < 0 → Fr xs L T0 106 d 120 142 [some (rf 1), some (it v1), some (it v2), some (it v3), some (it v4), some (rf (45 + 2 * t5 + 1)), some (it v6), some (it v7), some (it (zw (v3 + (zw (4 * v7)))))] [] s11 (qi P)) ∧ (¬ (r12 < 0) → Fr xs L T0 106 d 120 142 [some (rf 1), some (it v1), some (it v2), some (it v3), some (it v4), some (rf (45 + 2 * t5 + 1)), some (it (zw (v6 + 1))), some (it v7), some (it (zw (v3 + (zw (4 * v7)))))] [] s11 (qi P))))))))) ∧ (¬ (¬ r2 = 0) → P (-12) s1)))))) : Fr xs L T0 106 d 120 69 [some (rf 1), some (it v1), some (it v2), some (it v3), some (it v4), some (rf (45 + 2 * t5 + 1)), some (it v6), some (it v7), w8] [] s (qi P) := by
  refine Fr.ild (by decide +kernel : zi 120 69 = some (.iload 7, 2)) rfl ?_
  refine Fr.ild (by decide +kernel : zi 120 71 = some (.iload 4, 2)) rfl ?_
  refine Fr.if2 (q := 148) (by decide +kernel : zi 120 73 = some (.if_icmp .ge 75, 3)) (by decide +kernel) (fun g9 => ?_) (fun g9 => ?_)
  · have h := h.1 g9
    refine Fr.ild (by decide +kernel : zi 120 148 = some (.iload 6, 2)) rfl ?_
    exact Fr.retI (by decide +kernel : zi 120 150 = some (.ireturn, 1)) (by decide +kernel) h
  · have h := h.2 g9
    refine Fr.ildn (by decide +kernel : zi 120 76 = some (.iload_n 3, 1)) rfl ?_
    refine Fr.iconst (by decide +kernel : zi 120 77 = some (.iconst 4, 1)) (by decide) ?_
    refine Fr.ild (by decide +kernel : zi 120 78 = some (.iload 7, 2)) rfl ?_
    refine Fr.imul (by decide +kernel : zi 120 80 = some (.imul, 1)) ?_
    refine Fr.iadd (by decide +kernel : zi 120 81 = some (.iadd, 1)) ?_
    refine Fr.ist (lv2 := [some (rf 1), some (it v1), some (it v2), some (it v3), some (it v4), some (rf (45 + 2 * t5 + 1)), some (it v6), some (it v7), some (it (zw (v3 + (zw (4 * v7)))))]) (by decide +kernel : zi 120 82 = some (.istore 8, 2)) (Nat.le_of_ble_eq_true rfl) rfl ?_
    refine Fr.ald (c := (45 + 2 * t5 + 1)) (by decide +kernel : zi 120 84 = some (.aload 5, 2)) rfl ⟨by omega, by omega⟩ ?_
    refine Fr.ild (by decide +kernel : zi 120 86 = some (.iload 8, 2)) rfl ?_
    refine Fr.iconst (by decide +kernel : zi 120 88 = some (.iconst 4, 1)) (by decide) ?_
    refine Fr.callI (y2 := 69) (na := 3) (as := [rf (45 + 2 * t5 + 1), it (zw (v3 + (zw (4 * v7)))), it 4]) (rest := []) (by decide +kernel : zi 120 89 = some (.invokevirtual 290, 3)) rfl (by decide +kernel) (by decide +kernel) rfl rfl (zok_V rfl (by decide) (by decide +kernel) (by decide +kernel) (zrecv_c (c := (45 + 2 * t5)) (by omega) (by rw [(zsheet_sh _ ht5).1]; decide +kernel)) rfl (Nat.le_of_ble_eq_true rfl)) h (fun r2 s1 h => ?_)
    refine Fr.if0 (q := 98) (by decide +kernel : zi 120 92 = some (.ifCond .ne 6, 3)) (by decide +kernel) (fun g9 => ?_) (fun g9 => ?_)
    · have h := h.1 g9
      refine Fr.aldn (c := 1) (by decide +kernel : zi 120 98 = some (.aload_n 0, 1)) rfl ⟨by omega, by omega⟩ ?_
      refine Fr.ald (c := (45 + 2 * t5 + 1)) (by decide +kernel : zi 120 99 = some (.aload 5, 2)) rfl ⟨by omega, by omega⟩ ?_
      refine Fr.ild (by decide +kernel : zi 120 101 = some (.iload 8, 2)) rfl ?_
      refine Fr.callI (y2 := 70) (na := 2) (as := [rf (45 + 2 * t5 + 1), it (zw (v3 + (zw (4 * v7))))]) (rest := [rf 1]) (by decide +kernel : zi 120 103 = some (.invokevirtual 302, 3)) rfl (by decide +kernel) (by decide +kernel) rfl rfl (zok_V rfl (by decide) (by decide +kernel) (by decide +kernel) (zrecv_c (c := (45 + 2 * t5)) (by omega) (by rw [(zsheet_sh _ ht5).1]; decide +kernel)) rfl (Nat.le_of_ble_eq_true rfl)) h (fun r4 s3 h => ?_)
      refine Fr.ald (c := (45 + 2 * t5 + 1)) (by decide +kernel : zi 120 106 = some (.aload 5, 2)) rfl ⟨by omega, by omega⟩ ?_
      refine Fr.ild (by decide +kernel : zi 120 108 = some (.iload 8, 2)) rfl ?_
      refine Fr.iconst (by decide +kernel : zi 120 110 = some (.iconst 1, 1)) (by decide) ?_
      refine Fr.iadd (by decide +kernel : zi 120 111 = some (.iadd, 1)) ?_
      refine Fr.callI (y2 := 70) (na := 2) (as := [rf (45 + 2 * t5 + 1), it (zw ((zw (v3 + (zw (4 * v7)))) + 1))]) (rest := [it r4, rf 1]) (by decide +kernel : zi 120 112 = some (.invokevirtual 302, 3)) rfl (by decide +kernel) (by decide +kernel) rfl rfl (zok_V rfl (by decide) (by decide +kernel) (by decide +kernel) (zrecv_c (c := (45 + 2 * t5)) (by omega) (by rw [(zsheet_sh _ ht5).1]; decide +kernel)) rfl (Nat.le_of_ble_eq_true rfl)) h (fun r6 s5 h => ?_)
      refine Fr.ald (c := (45 + 2 * t5 + 1)) (by decide +kernel : zi 120 115 = some (.aload 5, 2)) rfl ⟨by omega, by omega⟩ ?_
      refine Fr.ild (by decide +kernel : zi 120 117 = some (.iload 8, 2)) rfl ?_
      refine Fr.iconst (by decide +kernel : zi 120 119 = some (.iconst 2, 1)) (by decide) ?_
      refine Fr.iadd (by decide +kernel : zi 120 120 = some (.iadd, 1)) ?_
      refine Fr.callI (y2 := 70) (na := 2) (as := [rf (45 + 2 * t5 + 1), it (zw ((zw (v3 + (zw (4 * v7)))) + 2))]) (rest := [it r6, it r4, rf 1]) (by decide +kernel : zi 120 121 = some (.invokevirtual 302, 3)) rfl (by decide +kernel) (by decide +kernel) rfl rfl (zok_V rfl (by decide) (by decide +kernel) (by decide +kernel) (zrecv_c (c := (45 + 2 * t5)) (by omega) (by rw [(zsheet_sh _ ht5).1]; decide +kernel)) rfl (Nat.le_of_ble_eq_true rfl)) h (fun r8 s7 h => ?_)
      refine Fr.ald (c := (45 + 2 * t5 + 1)) (by decide +kernel : zi 120 124 = some (.aload 5, 2)) rfl ⟨by omega, by omega⟩ ?_
      refine Fr.ild (by decide +kernel : zi 120 126 = some (.iload 8, 2)) rfl ?_
      refine Fr.iconst (by decide +kernel : zi 120 128 = some (.iconst 3, 1)) (by decide) ?_
      refine Fr.iadd (by decide +kernel : zi 120 129 = some (.iadd, 1)) ?_
      refine Fr.callI (y2 := 70) (na := 2) (as := [rf (45 + 2 * t5 + 1), it (zw ((zw (v3 + (zw (4 * v7)))) + 3))]) (rest := [it r8, it r6, it r4, rf 1]) (by decide +kernel : zi 120 130 = some (.invokevirtual 302, 3)) rfl (by decide +kernel) (by decide +kernel) rfl rfl (zok_V rfl (by decide) (by decide +kernel) (by decide +kernel) (zrecv_c (c := (45 + 2 * t5)) (by omega) (by rw [(zsheet_sh _ ht5).1]; decide +kernel)) rfl (Nat.le_of_ble_eq_true rfl)) h (fun r10 s9 h => ?_)
      refine Fr.callI (y2 := 90) (na := 5) (as := [rf 1, it r4, it r6, it r8, it r10]) (rest := []) (by decide +kernel : zi 120 133 = some (.invokevirtual 305, 3)) rfl (by decide +kernel) (by decide +kernel) rfl rfl (zok_V rfl (by decide) (by decide +kernel) (by decide +kernel) (zrecv_c (c := 0) (by decide) (by decide +kernel)) rfl (Nat.le_of_ble_eq_true rfl)) h (fun r12 s11 h => ?_)
      refine Fr.if0 (q := 142) (by decide +kernel : zi 120 136 = some (.ifCond .lt 6, 3)) (by decide +kernel) (fun g9 => ?_) (fun g9 => ?_)
      · have h := h.1 g9
        exact h
      · have h := h.2 g9
        refine Fr.iinc (lv2 := [some (rf 1), some (it v1), some (it v2), some (it v3), some (it v4), some (rf (45 + 2 * t5 + 1)), some (it (zw (v6 + 1))), some (it v7), some (it (zw (v3 + (zw (4 * v7)))))]) (by decide +kernel : zi 120 139 = some (.iinc 6 1, 3)) (Nat.le_of_ble_eq_true rfl) rfl rfl ?_
        exact h
    · have h := h.2 g9
      refine Fr.bipush (by decide +kernel : zi 120 95 = some (.bipush (-12), 2)) (by decide) ?_
      exact Fr.retI (by decide +kernel : zi 120 97 = some (.ireturn, 1)) (by decide +kernel) h
theorem f120_142 {xs : Nat → Int} {L : Nat} {d : Nat} {v1 : Int} {v2 : Int} {v3 : Int} {v4 : Int} {t5 : Nat} {v6 : Int} {v7 : Int} {v8 : Int} {s : Pl} {P : Int → Pl → Prop} (ht5 : t5 < 4) (h : Fr xs L T0 106 d 120 69 [some (rf 1), some (it v1), some (it v2), some (it v3), some (it v4), some (rf (45 + 2 * t5 + 1)), some (it v6), some (it (zw (v7 + 1))), some (it v8)] [] s (qi P)) : Fr xs L T0 106 d 120 142 [some (rf 1), some (it v1), some (it v2), some (it v3), some (it v4), some (rf (45 + 2 * t5 + 1)), some (it v6), some (it v7), some (it v8)] [] s (qi P) := by
  refine Fr.iinc (lv2 := [some (rf 1), some (it v1), some (it v2), some (it v3), some (it v4), some (rf (45 + 2 * t5 + 1)), some (it v6), some (it (zw (v7 + 1))), some (it v8)]) (by decide +kernel : zi 120 142 = some (.iinc 7 1, 3)) (Nat.le_of_ble_eq_true rfl) rfl rfl ?_
  refine Fr.goto (q := 69) (by decide +kernel : zi 120 145 = some (.goto (-76), 3)) (by decide +kernel) ?_
  exact h
-- 121 X7_taken
theorem f121_0 {xs : Nat → Int} {L : Nat} {d : Nat} {v1 : Int} {v2 : Int} {s : Pl} {P : Int → Pl → Prop} (h : ((v2 < 0 → P (-2) s) ∧ (¬ (v2 < 0) → ((v2 ≤ 6 → ((v1 < 0 → P (-12) s) ∧ (¬ (v1 < 0) → ((v1 < 10 → ((4 ≤ v1 → Ev xs L T0 106 d 2 [rf 2, it (zw (v1 - 4))] s (qi fun r2 s1 => ((¬ r2 = 0 → ((6 ≤ v2 → P (-13) s1) ∧ (¬ (6 ≤ v2) → (0 ≤ zw (v1 - 4) ∧ zw (v1 - 4) < 6) ∧ Ev xs L T0 106 d 129 [it (s1 3 (zw (v1 - 4))), it v2] s1 (qi fun r4 s3 => ((r4 = 0 → P (-13) s3) ∧ (¬ (r4 = 0) → P (zw (v1 - 4)) s3)))))) ∧ (¬ (¬ r2 = 0) → P (-11) s1)))) ∧ (¬ (4 ≤ v1) → ((¬ v2 = 6 → P (-13) s) ∧ (¬ (¬ v2 = 6) → Ev xs L T0 106 d 6 [rf 2, it v1] s (qi fun r6 s5 => Ev xs L T0 106 d 228 [it r6] s5 (qi fun r8 s7 => P r8 s7))))))) ∧ (¬ (v1 < 10) → P (-12) s))))) ∧ (¬ (v2 ≤ 6) → P (-2) s))))) : Fr xs L T0 106 d 121 0 [some (rf 1), some (it v1), some (it v2), none] [] s (qi P) := by
  refine Fr.ildn (by decide +kernel : zi 121 0 = some (.iload_n 2, 1)) rfl ?_
  refine Fr.if0 (q := 10) (by decide +kernel : zi 121 1 = some (.ifCond .lt 9, 3)) (by decide +kernel) (fun g9 => ?_) (fun g9 => ?_)
  · have h := h.1 g9
    refine Fr.bipush (by decide +kernel : zi 121 10 = some (.bipush (-2), 2)) (by decide) ?_
    exact Fr.retI (by decide +kernel : zi 121 12 = some (.ireturn, 1)) (by decide +kernel) h
  · have h := h.2 g9
    refine Fr.ildn (by decide +kernel : zi 121 4 = some (.iload_n 2, 1)) rfl ?_
    refine Fr.bipush (by decide +kernel : zi 121 5 = some (.bipush 6, 2)) (by decide) ?_
    refine Fr.if2 (q := 13) (by decide +kernel : zi 121 7 = some (.if_icmp .le 6, 3)) (by decide +kernel) (fun g9 => ?_) (fun g9 => ?_)
    · have h := h.1 g9
      refine Fr.ildn (by decide +kernel : zi 121 13 = some (.iload_n 1, 1)) rfl ?_
      refine Fr.if0 (q := 23) (by decide +kernel : zi 121 14 = some (.ifCond .lt 9, 3)) (by decide +kernel) (fun g9 => ?_) (fun g9 => ?_)
      · have h := h.1 g9
        refine Fr.bipush (by decide +kernel : zi 121 23 = some (.bipush (-12), 2)) (by decide) ?_
        exact Fr.retI (by decide +kernel : zi 121 25 = some (.ireturn, 1)) (by decide +kernel) h
      · have h := h.2 g9
        refine Fr.ildn (by decide +kernel : zi 121 17 = some (.iload_n 1, 1)) rfl ?_
        refine Fr.bipush (by decide +kernel : zi 121 18 = some (.bipush 10, 2)) (by decide) ?_
        refine Fr.if2 (q := 26) (by decide +kernel : zi 121 20 = some (.if_icmp .lt 6, 3)) (by decide +kernel) (fun g9 => ?_) (fun g9 => ?_)
        · have h := h.1 g9
          refine Fr.ildn (by decide +kernel : zi 121 26 = some (.iload_n 1, 1)) rfl ?_
          refine Fr.iconst (by decide +kernel : zi 121 27 = some (.iconst 4, 1)) (by decide) ?_
          refine Fr.if2 (q := 54) (by decide +kernel : zi 121 28 = some (.if_icmp .ge 26, 3)) (by decide +kernel) (fun g9 => ?_) (fun g9 => ?_)
          · have h := h.1 g9
            refine Fr.ildn (by decide +kernel : zi 121 54 = some (.iload_n 1, 1)) rfl ?_
            refine Fr.iconst (by decide +kernel : zi 121 55 = some (.iconst 4, 1)) (by decide) ?_
            refine Fr.isub (by decide +kernel : zi 121 56 = some (.isub, 1)) ?_
            refine Fr.istn (lv2 := [some (rf 1), some (it v1), some (it v2), some (it (zw (v1 - 4)))]) (by decide +kernel : zi 121 57 = some (.istore_n 3, 1)) (Nat.le_of_ble_eq_true rfl) rfl ?_
            refine Fr.aldn (c := 1) (by decide +kernel : zi 121 58 = some (.aload_n 0, 1)) rfl ⟨by omega, by omega⟩ ?_
            refine Fr.gR (c := 0) (c2 := 2) (ci := 7) (k := 0) 0 (by decide +kernel : zi 121 59 = some (.getfield 10, 3)) (by decide +kernel) (by decide +kernel) (by decide +kernel) (by decide) rfl (fun q => q (0, 0, 2) (by decide +kernel)) ?_
            refine Fr.ildn (by decide +kernel : zi 121 62 = some (.iload_n 3, 1)) rfl ?_
            refine Fr.callI (y2 := 2) (na := 2) (as := [rf 2, it (zw (v1 - 4))]) (rest := []) (by decide +kernel : zi 121 63 = some (.invokevirtual 137, 3)) rfl (by decide +kernel) (by decide +kernel) rfl rfl (zok_V rfl (by decide) (by decide +kernel) (by decide +kernel) (zrecv_c (c := 1) (by decide) (by decide +kernel)) rfl (Nat.le_of_ble_eq_true rfl)) h (fun r2 s1 h => ?_)
            refine Fr.if0 (q := 72) (by decide +kernel : zi 121 66 = some (.ifCond .ne 6, 3)) (by decide +kernel) (fun g9 => ?_) (fun g9 => ?_)
            · have h := h.1 g9
              refine Fr.ildn (by decide +kernel : zi 121 72 = some (.iload_n 2, 1)) rfl ?_
              refine Fr.bipush (by decide +kernel : zi 121 73 = some (.bipush 6, 2)) (by decide) ?_
              refine Fr.if2 (q := 98) (by decide +kernel : zi 121 75 = some (.if_icmp .ge 23, 3)) (by decide +kernel) (fun g9 => ?_) (fun g9 => ?_)
              · have h := h.1 g9
                refine Fr.bipush (by decide +kernel : zi 121 98 = some (.bipush (-13), 2)) (by decide) ?_
                exact Fr.retI (by decide +kernel : zi 121 100 = some (.ireturn, 1)) (by decide +kernel) h
              · have h := h.2 g9
                refine Fr.aldn (c := 1) (by decide +kernel : zi 121 78 = some (.aload_n 0, 1)) rfl ⟨by omega, by omega⟩ ?_
                refine Fr.gR (c := 0) (c2 := 2) (ci := 7) (k := 0) 0 (by decide +kernel : zi 121 79 = some (.getfield 10, 3)) (by decide +kernel) (by decide +kernel) (by decide +kernel) (by decide) rfl (fun q => q (0, 0, 2) (by decide +kernel)) ?_
                refine Fr.gR (c := 1) (c2 := 4) (ci := 0) (k := 4) 4 (by decide +kernel : zi 121 82 = some (.getfield 158, 3)) (by decide +kernel) (by decide +kernel) (by decide +kernel) (by decide) rfl (fun q => q (1, 4, 4) (by decide +kernel)) ?_
                refine Fr.ildn (by decide +kernel : zi 121 85 = some (.iload_n 3, 1)) rfl ?_
                obtain ⟨⟨g0, g1⟩, h⟩ := h
                refine Fr.iald (c := 3) (N := 6) (by decide +kernel : zi 121 86 = some (.iaload, 1)) (by decide +kernel) (by decide) g0 g1 ?_
                refine Fr.ildn (by decide +kernel : zi 121 87 = some (.iload_n 2, 1)) rfl ?_
                refine Fr.callI (y2 := 129) (na := 2) (as := [it (s1 3 (zw (v1 - 4))), it v2]) (rest := []) (by decide +kernel : zi 121 88 = some (.invokestatic 309, 3)) rfl (by decide +kernel) (by decide +kernel) rfl rfl (zok_S rfl (by decide) (by decide +kernel) rfl (Nat.le_of_ble_eq_true rfl)) h (fun r4 s3 h => ?_)
                refine Fr.if0 (q := 98) (by decide +kernel : zi 121 91 = some (.ifCond .eq 7, 3)) (by decide +kernel) (fun g9 => ?_) (fun g9 => ?_)
                · have h := h.1 g9
                  refine Fr.bipush (by decide +kernel : zi 121 98 = some (.bipush (-13), 2)) (by decide) ?_
                  exact Fr.retI (by decide +kernel : zi 121 100 = some (.ireturn, 1)) (by decide +kernel) h
                · have h := h.2 g9
                  refine Fr.ildn (by decide +kernel : zi 121 94 = some (.iload_n 3, 1)) rfl ?_
                  refine Fr.goto (q := 100) (by decide +kernel : zi 121 95 = some (.goto 5, 3)) (by decide +kernel) ?_
                  exact Fr.retI (by decide +kernel : zi 121 100 = some (.ireturn, 1)) (by decide +kernel) h
            · have h := h.2 g9
              refine Fr.bipush (by decide +kernel : zi 121 69 = some (.bipush (-11), 2)) (by decide) ?_
              exact Fr.retI (by decide +kernel : zi 121 71 = some (.ireturn, 1)) (by decide +kernel) h
          · have h := h.2 g9
            refine Fr.ildn (by decide +kernel : zi 121 31 = some (.iload_n 2, 1)) rfl ?_
            refine Fr.bipush (by decide +kernel : zi 121 32 = some (.bipush 6, 2)) (by decide) ?_
            refine Fr.if2 (q := 51) (by decide +kernel : zi 121 34 = some (.if_icmp .ne 17, 3)) (by decide +kernel) (fun g9 => ?_) (fun g9 => ?_)
            · have h := h.1 g9
              refine Fr.bipush (by decide +kernel : zi 121 51 = some (.bipush (-13), 2)) (by decide) ?_
              exact Fr.retI (by decide +kernel : zi 121 53 = some (.ireturn, 1)) (by decide +kernel) h
            · have h := h.2 g9
              refine Fr.aldn (c := 1) (by decide +kernel : zi 121 37 = some (.aload_n 0, 1)) rfl ⟨by omega, by omega⟩ ?_
              refine Fr.gR (c := 0) (c2 := 2) (ci := 7) (k := 0) 0 (by decide +kernel : zi 121 38 = some (.getfield 10, 3)) (by decide +kernel) (by decide +kernel) (by decide +kernel) (by decide) rfl (fun q => q (0, 0, 2) (by decide +kernel)) ?_
              refine Fr.ildn (by decide +kernel : zi 121 41 = some (.iload_n 1, 1)) rfl ?_
              refine Fr.callI (y2 := 6) (na := 2) (as := [rf 2, it v1]) (rest := []) (by decide +kernel : zi 121 42 = some (.invokevirtual 112, 3)) rfl (by decide +kernel) (by decide +kernel) rfl rfl (zok_V rfl (by decide) (by decide +kernel) (by decide +kernel) (zrecv_c (c := 1) (by decide) (by decide +kernel)) rfl (Nat.le_of_ble_eq_true rfl)) h (fun r6 s5 h => ?_)
              refine Fr.callI (y2 := 228) (na := 1) (as := [it r6]) (rest := []) (by decide +kernel : zi 121 45 = some (.invokestatic 116, 3)) rfl (by decide +kernel) (by decide +kernel) rfl rfl (zok_S rfl (by decide) (by decide +kernel) rfl (Nat.le_of_ble_eq_true rfl)) h (fun r8 s7 h => ?_)
              refine Fr.goto (q := 53) (by decide +kernel : zi 121 48 = some (.goto 5, 3)) (by decide +kernel) ?_
              exact Fr.retI (by decide +kernel : zi 121 53 = some (.ireturn, 1)) (by decide +kernel) h
        · have h := h.2 g9
          refine Fr.bipush (by decide +kernel : zi 121 23 = some (.bipush (-12), 2)) (by decide) ?_
          exact Fr.retI (by decide +kernel : zi 121 25 = some (.ireturn, 1)) (by decide +kernel) h
    · have h := h.2 g9
      refine Fr.bipush (by decide +kernel : zi 121 10 = some (.bipush (-2), 2)) (by decide) ?_
      exact Fr.retI (by decide +kernel : zi 121 12 = some (.ireturn, 1)) (by decide +kernel) h
theorem e121 {xs : Nat → Int} {L : Nat} {d : Nat} {v1 : Int} {v2 : Int} {s : Pl} {Q : Option AV → Pl → Prop} (hd : 1 ≤ d) (k : Fr xs L T0 106 (d - 1) 121 0 [some (rf 1), some (it v1), some (it v2), none] [] s Q) : Ev xs L T0 106 d 121 [rf 1, it v1, it v2] s Q := Ev.of (by decide) _ rfl hd k
-- 122 X7_lawNow
theorem f122_0 {xs : Nat → Int} {L : Nat} {d : Nat}  {s : Pl} {P : Nat → Pl → Prop} (h : ((s 1 2 < 0 → Fr xs L T0 106 d 122 40 [some (rf 1)] [] s (qr P)) ∧ (¬ (s 1 2 < 0) → ((6 ≤ s 1 2 → Fr xs L T0 106 d 122 40 [some (rf 1)] [] s (qr P)) ∧ (¬ (6 ≤ s 1 2) → (0 ≤ s 1 2 ∧ s 1 2 < 6) ∧ ∀ tq1 : Nat, (tq1 : Int) = s 1 2 → tq1 < 6 → P (21 + 4 * tq1 + 1) s))))) : Fr xs L T0 106 d 122 0 [some (rf 1)] [] s (qr P) := by
  refine Fr.aldn (c := 1) (by decide +kernel : zi 122 0 = some (.aload_n 0, 1)) rfl ⟨by omega, by omega⟩ ?_
  refine Fr.gR (c := 0) (c2 := 2) (ci := 7) (k := 0) 0 (by decide +kernel : zi 122 1 = some (.getfield 10, 3)) (by decide +kernel) (by decide +kernel) (by decide +kernel) (by decide) rfl (fun q => q (0, 0, 2) (by decide +kernel)) ?_
  refine Fr.gI (c := 1) (ci := 0) (k := 2) (t := 0) 2 (by decide +kernel : zi 122 4 = some (.getfield 124, 3)) (by decide +kernel) (by decide +kernel) (by decide +kernel) (by decide) rfl ?_
  refine Fr.if0 (q := 40) (by decide +kernel : zi 122 7 = some (.ifCond .lt 33, 3)) (by decide +kernel) (fun g9 => ?_) (fun g9 => ?_)
  · have h := h.1 g9
    exact h
  · have h := h.2 g9
    refine Fr.aldn (c := 1) (by decide +kernel : zi 122 10 = some (.aload_n 0, 1)) rfl ⟨by omega, by omega⟩ ?_
    refine Fr.gR (c := 0) (c2 := 2) (ci := 7) (k := 0) 0 (by decide +kernel : zi 122 11 = some (.getfield 10, 3)) (by decide +kernel) (by decide +kernel) (by decide +kernel) (by decide) rfl (fun q => q (0, 0, 2) (by decide +kernel)) ?_
    refine Fr.gI (c := 1) (ci := 0) (k := 2) (t := 0) 2 (by decide +kernel : zi 122 14 = some (.getfield 124, 3)) (by decide +kernel) (by decide +kernel) (by decide +kernel) (by decide) rfl ?_
    refine Fr.aldn (c := 1) (by decide +kernel : zi 122 17 = some (.aload_n 0, 1)) rfl ⟨by omega, by omega⟩ ?_
    refine Fr.gR (c := 0) (c2 := 20) (ci := 7) (k := 3) 3 (by decide +kernel : zi 122 18 = some (.getfield 21, 3)) (by decide +kernel) (by decide +kernel) (by decide +kernel) (by decide) rfl (fun q => q (0, 3, 20) (by decide +kernel)) ?_
    refine Fr.alen (c := 19) (N := 6) (K := 23) (by decide +kernel : zi 122 21 = some (.arraylength, 1)) (by decide +kernel) (by decide) (by decide) ?_
    refine Fr.if2 (q := 40) (by decide +kernel : zi 122 22 = some (.if_icmp .ge 18, 3)) (by decide +kernel) (fun g9 => ?_) (fun g9 => ?_)
    · have h := h.1 g9
      exact h
    · have h := h.2 g9
      refine Fr.aldn (c := 1) (by decide +kernel : zi 122 25 = some (.aload_n 0, 1)) rfl ⟨by omega, by omega⟩ ?_
      refine Fr.gR (c := 0) (c2 := 20) (ci := 7) (k := 3) 3 (by decide +kernel : zi 122 26 = some (.getfield 21, 3)) (by decide +kernel) (by decide +kernel) (by decide +kernel) (by decide) rfl (fun q => q (0, 3, 20) (by decide +kernel)) ?_
      refine Fr.aldn (c := 1) (by decide +kernel : zi 122 29 = some (.aload_n 0, 1)) rfl ⟨by omega, by omega⟩ ?_
      refine Fr.gR (c := 0) (c2 := 2) (ci := 7) (k := 0) 0 (by decide +kernel : zi 122 30 = some (.getfield 10, 3)) (by decide +kernel) (by decide +kernel) (by decide +kernel) (by decide) rfl (fun q => q (0, 0, 2) (by decide +kernel)) ?_
      refine Fr.gI (c := 1) (ci := 0) (k := 2) (t := 0) 2 (by decide +kernel : zi 122 33 = some (.getfield 124, 3)) (by decide +kernel) (by decide +kernel) (by decide +kernel) (by decide) rfl ?_
      obtain ⟨⟨g0, g1⟩, h⟩ := h
      obtain ⟨tq1, etq1⟩ : ∃ q : Nat, (q : Int) = s 1 2 := ⟨(s 1 2).toNat, by omega⟩
      have htq1 : tq1 < 6 := by omega
      have h := h tq1 etq1 htq1
      refine Fr.aald (c := 19) (c2 := (21 + 4 * tq1 + 1)) (N := 6) (K := 23) (by decide +kernel : zi 122 36 = some (.aaload, 1)) (by decide +kernel) (by decide) (by decide) g0 g1 (fun q => by rw [← etq1]; exact q _ (KR0.2.1 _ (zlaw_T3 _ htq1))) ?_
      refine Fr.goto (q := 46) (by decide +kernel : zi 122 37 = some (.goto 9, 3)) (by decide +kernel) ?_
      exact Fr.retR (by decide +kernel : zi 122 46 = some (.areturn, 1)) (by decide +kernel) (by omega) h
theorem e122 {xs : Nat → Int} {L : Nat} {d : Nat}  {s : Pl} {Q : Option AV → Pl → Prop} (hd : 1 ≤ d) (k : Fr xs L T0 106 (d - 1) 122 0 [some (rf 1)] [] s Q) : Ev xs L T0 106 d 122 [rf 1] s Q := Ev.of (by decide) _ rfl hd k
theorem f122_40 {xs : Nat → Int} {L : Nat} {d : Nat}  {s : Pl} {P : Nat → Pl → Prop} (h : (0 ≤ (0 : Int) ∧ (0 : Int) < 6) ∧ ∀ tq1 : Nat, (tq1 : Int) = 0 → tq1 < 6 → P (21 + 4 * tq1 + 1) s) : Fr xs L T0 106 d 122 40 [some (rf 1)] [] s (qr P) := by
  refine Fr.aldn (c := 1) (by decide +kernel : zi 122 40 = some (.aload_n 0, 1)) rfl ⟨by omega, by omega⟩ ?_
  refine Fr.gR (c := 0) (c2 := 20) (ci := 7) (k := 3) 3 (by decide +kernel : zi 122 41 = some (.getfield 21, 3)) (by decide +kernel) (by decide +kernel) (by decide +kernel) (by decide) rfl (fun q => q (0, 3, 20) (by decide +kernel)) ?_
  refine Fr.iconst (by decide +kernel : zi 122 44 = some (.iconst 0, 1)) (by decide) ?_
  obtain ⟨⟨g0, g1⟩, h⟩ := h
  obtain ⟨tq1, etq1⟩ : ∃ q : Nat, (q : Int) = 0 := ⟨((0 : Int)).toNat, by omega⟩
  have htq1 : tq1 < 6 := by omega
  have h := h tq1 etq1 htq1
  refine Fr.aald (c := 19) (c2 := (21 + 4 * tq1 + 1)) (N := 6) (K := 23) (by decide +kernel : zi 122 45 = some (.aaload, 1)) (by decide +kernel) (by decide) (by decide) g0 g1 (fun q => by rw [← etq1]; exact q _ (KR0.2.1 _ (zlaw_T3 _ htq1))) ?_
  exact Fr.retR (by decide +kernel : zi 122 46 = some (.areturn, 1)) (by decide +kernel) (by omega) h
-- 123 X7_explore
theorem f123_0 {xs : Nat → Int} {L : Nat} {d : Nat}  {s : Pl} {P : Pl → Prop} (h : ((¬ s 0 9 = 0 → P s) ∧ (¬ (¬ s 0 9 = 0) → Ev xs L T0 106 d 122 [rf 1] s (qr fun c9 s1 => ∃ tq2 : Nat, tq2 < 6 ∧ c9 = 21 + 4 * tq2 + 1 ∧ Ev xs L T0 106 d 34 [rf 58, rf (21 + 4 * tq2 + 1)] s1 (qv fun s3 => Ev xs L T0 106 d 8 [rf 2] s3 (qi fun r5 s4 => Ev xs L T0 106 d 54 [rf 65, it r5, it 0, it (-1), it 400] s4 (qi fun r7 s6 => P (zup s6 0 9 1)))))))) : Fr xs L T0 106 d 123 0 [some (rf 1)] [] s (qv P) := by
  refine Fr.aldn (c := 1) (by decide +kernel : zi 123 0 = some (.aload_n 0, 1)) rfl ⟨by omega, by omega⟩ ?_
  refine Fr.gI (c := 0) (ci := 7) (k := 9) (t := 2) 9 (by decide +kernel : zi 123 1 = some (.getfield 98, 3)) (by decide +kernel) (by decide +kernel) (by decide +kernel) (by decide) rfl ?_
  refine Fr.if0 (q := 43) (by decide +kernel : zi 123 4 = some (.ifCond .ne 39, 3)) (by decide +kernel) (fun g9 => ?_) (fun g9 => ?_)
  · have h := h.1 g9
    exact Fr.retV (by decide +kernel : zi 123 43 = some (.return_, 1)) (by decide +kernel) h
  · have h := h.2 g9
    refine Fr.aldn (c := 1) (by decide +kernel : zi 123 7 = some (.aload_n 0, 1)) rfl ⟨by omega, by omega⟩ ?_
    refine Fr.gR (c := 0) (c2 := 58) (ci := 7) (k := 6) 6 (by decide +kernel : zi 123 8 = some (.getfield 74, 3)) (by decide +kernel) (by decide +kernel) (by decide +kernel) (by decide) rfl (fun q => q (0, 6, 58) (by decide +kernel)) ?_
    refine Fr.aldn (c := 1) (by decide +kernel : zi 123 11 = some (.aload_n 0, 1)) rfl ⟨by omega, by omega⟩ ?_
    refine Fr.callR (y2 := 122) (na := 1) (as := [rf 1]) (rest := [rf 58]) (by decide +kernel : zi 123 12 = some (.invokevirtual 130, 3)) rfl (by decide +kernel) (by decide +kernel) rfl rfl (zok_V rfl (by decide) (by decide +kernel) (by decide +kernel) (zrecv_c (c := 0) (by decide) (by decide +kernel)) rfl (Nat.le_of_ble_eq_true rfl)) h (fun c9 s1 h => ?_)
    obtain ⟨tq2, htq2, g0, h⟩ := h
    subst g0
    refine Fr.callV (y2 := 34) (na := 2) (as := [rf 58, rf (21 + 4 * tq2 + 1)]) (rest := []) (by decide +kernel : zi 123 15 = some (.invokevirtual 134, 3)) rfl (by decide +kernel) (by decide +kernel) rfl rfl (zok_V rfl (by decide) (by decide +kernel) (by decide +kernel) (zrecv_c (c := 57) (by decide) (by decide +kernel)) rfl (Nat.le_of_ble_eq_true rfl)) h (fun s3 h => ?_)
    refine Fr.aldn (c := 1) (by decide +kernel : zi 123 18 = some (.aload_n 0, 1)) rfl ⟨by omega, by omega⟩ ?_
    refine Fr.gR (c := 0) (c2 := 65) (ci := 7) (k := 7) 7 (by decide +kernel : zi 123 19 = some (.getfield 83, 3)) (by decide +kernel) (by decide +kernel) (by decide +kernel) (by decide) rfl (fun q => q (0, 7, 65) (by decide +kernel)) ?_
    refine Fr.aldn (c := 1) (by decide +kernel : zi 123 22 = some (.aload_n 0, 1)) rfl ⟨by omega, by omega⟩ ?_
    refine Fr.gR (c := 0) (c2 := 2) (ci := 7) (k := 0) 0 (by decide +kernel : zi 123 23 = some (.getfield 10, 3)) (by decide +kernel) (by decide +kernel) (by decide +kernel) (by decide) rfl (fun q => q (0, 0, 2) (by decide +kernel)) ?_
    refine Fr.callI (y2 := 8) (na := 1) (as := [rf 2]) (rest := [rf 65]) (by decide +kernel : zi 123 26 = some (.invokevirtual 180, 3)) rfl (by decide +kernel) (by decide +kernel) rfl rfl (zok_V rfl (by decide) (by decide +kernel) (by decide +kernel) (zrecv_c (c := 1) (by decide) (by decide +kernel)) rfl (Nat.le_of_ble_eq_true rfl)) h (fun r5 s4 h => ?_)
    refine Fr.iconst (by decide +kernel : zi 123 29 = some (.iconst 0, 1)) (by decide) ?_
    refine Fr.iconst (by decide +kernel : zi 123 30 = some (.iconst (-1), 1)) (by decide) ?_
    refine Fr.sipush (by decide +kernel : zi 123 31 = some (.sipush 400, 3)) (by decide) ?_
    refine Fr.callI (y2 := 54) (na := 5) (as := [rf 65, it r5, it 0, it (-1), it 400]) (rest := []) (by decide +kernel : zi 123 34 = some (.invokevirtual 312, 3)) rfl (by decide +kernel) (by decide +kernel) rfl rfl (zok_V rfl (by decide) (by decide +kernel) (by decide +kernel) (zrecv_c (c := 64) (by decide) (by decide +kernel)) rfl (Nat.le_of_ble_eq_true rfl)) h (fun r7 s6 h => ?_)
    refine Fr.pop (by decide +kernel : zi 123 37 = some (.pop, 1)) rfl ?_
    refine Fr.aldn (c := 1) (by decide +kernel : zi 123 38 = some (.aload_n 0, 1)) rfl ⟨by omega, by omega⟩ ?_
    refine Fr.iconst (by decide +kernel : zi 123 39 = some (.iconst 1, 1)) (by decide) ?_
    refine Fr.pZ (c := 0) (ci := 7) (k := 9) 9 (by decide +kernel : zi 123 40 = some (.putfield 98, 3)) (by decide +kernel) (by decide +kernel) (by decide) (by decide +kernel) (by decide) rfl ?_
    exact Fr.retV (by decide +kernel : zi 123 43 = some (.return_, 1)) (by decide +kernel) h
theorem e123 {xs : Nat → Int} {L : Nat} {d : Nat}  {s : Pl} {Q : Option AV → Pl → Prop} (hd : 1 ≤ d) (k : Fr xs L T0 106 (d - 1) 123 0 [some (rf 1)] [] s Q) : Ev xs L T0 106 d 123 [rf 1] s Q := Ev.of (by decide) _ rfl hd k
-- 124 X7_searchNow
theorem f124_0 {xs : Nat → Int} {L : Nat} {d : Nat} {t1 : Nat} {v2 : Int} {s : Pl} {P : Int → Pl → Prop} (ht1 : t1 < 6) (h : Ev xs L T0 106 d 34 [rf 58, rf (21 + 4 * t1 + 1)] (zup s 0 9 0) (qv fun s1 => Ev xs L T0 106 d 8 [rf 2] s1 (qi fun r3 s2 => Ev xs L T0 106 d 40 [rf 58] s2 (qi fun r5 s4 => Ev xs L T0 106 d 54 [rf 65, it r3, it v2, it r5, it 400] s4 (qi fun r7 s6 => P r7 s6))))) : Fr xs L T0 106 d 124 0 [some (rf 1), some (rf (21 + 4 * t1 + 1)), some (it v2)] [] s (qi P) := by
  refine Fr.aldn (c := 1) (by decide +kernel : zi 124 0 = some (.aload_n 0, 1)) rfl ⟨by omega, by omega⟩ ?_
  refine Fr.iconst (by decide +kernel : zi 124 1 = some (.iconst 0, 1)) (by decide) ?_
  refine Fr.pZ (c := 0) (ci := 7) (k := 9) 9 (by decide +kernel : zi 124 2 = some (.putfield 98, 3)) (by decide +kernel) (by decide +kernel) (by decide) (by decide +kernel) (by decide) rfl ?_
  refine Fr.aldn (c := 1) (by decide +kernel : zi 124 5 = some (.aload_n 0, 1)) rfl ⟨by omega, by omega⟩ ?_
  refine Fr.gR (c := 0) (c2 := 58) (ci := 7) (k := 6) 6 (by decide +kernel : zi 124 6 = some (.getfield 74, 3)) (by decide +kernel) (by decide +kernel) (by decide +kernel) (by decide) rfl (fun q => q (0, 6, 58) (by decide +kernel)) ?_
  refine Fr.aldn (c := (21 + 4 * t1 + 1)) (by decide +kernel : zi 124 9 = some (.aload_n 1, 1)) rfl ⟨by omega, by omega⟩ ?_
  refine Fr.callV (y2 := 34) (na := 2) (as := [rf 58, rf (21 + 4 * t1 + 1)]) (rest := []) (by decide +kernel : zi 124 10 = some (.invokevirtual 134, 3)) rfl (by decide +kernel) (by decide +kernel) rfl rfl (zok_V rfl (by decide) (by decide +kernel) (by decide +kernel) (zrecv_c (c := 57) (by decide) (by decide +kernel)) rfl (Nat.le_of_ble_eq_true rfl)) h (fun s1 h => ?_)
  refine Fr.aldn (c := 1) (by decide +kernel : zi 124 13 = some (.aload_n 0, 1)) rfl ⟨by omega, by omega⟩ ?_
  refine Fr.gR (c := 0) (c2 := 65) (ci := 7) (k := 7) 7 (by decide +kernel : zi 124 14 = some (.getfield 83, 3)) (by decide +kernel) (by decide +kernel) (by decide +kernel) (by decide) rfl (fun q => q (0, 7, 65) (by decide +kernel)) ?_
  refine Fr.aldn (c := 1) (by decide +kernel : zi 124 17 = some (.aload_n 0, 1)) rfl ⟨by omega, by omega⟩ ?_
  refine Fr.gR (c := 0) (c2 := 2) (ci := 7) (k := 0) 0 (by decide +kernel : zi 124 18 = some (.getfield 10, 3)) (by decide +kernel) (by decide +kernel) (by decide +kernel) (by decide) rfl (fun q => q (0, 0, 2) (by decide +kernel)) ?_
  refine Fr.callI (y2 := 8) (na := 1) (as := [rf 2]) (rest := [rf 65]) (by decide +kernel : zi 124 21 = some (.invokevirtual 180, 3)) rfl (by decide +kernel) (by decide +kernel) rfl rfl (zok_V rfl (by decide) (by decide +kernel) (by decide +kernel) (zrecv_c (c := 1) (by decide) (by decide +kernel)) rfl (Nat.le_of_ble_eq_true rfl)) h (fun r3 s2 h => ?_)
  refine Fr.ildn (by decide +kernel : zi 124 24 = some (.iload_n 2, 1)) rfl ?_
  refine Fr.aldn (c := 1) (by decide +kernel : zi 124 25 = some (.aload_n 0, 1)) rfl ⟨by omega, by omega⟩ ?_
  refine Fr.gR (c := 0) (c2 := 58) (ci := 7) (k := 6) 6 (by decide +kernel : zi 124 26 = some (.getfield 74, 3)) (by decide +kernel) (by decide +kernel) (by decide +kernel) (by decide) rfl (fun q => q (0, 6, 58) (by decide +kernel)) ?_
  refine Fr.callI (y2 := 40) (na := 1) (as := [rf 58]) (rest := [it v2, it r3, rf 65]) (by decide +kernel : zi 124 29 = some (.invokevirtual 230, 3)) rfl (by decide +kernel) (by decide +kernel) rfl rfl (zok_V rfl (by decide) (by decide +kernel) (by decide +kernel) (zrecv_c (c := 57) (by decide) (by decide +kernel)) rfl (Nat.le_of_ble_eq_true rfl)) h (fun r5 s4 h => ?_)
  refine Fr.sipush (by decide +kernel : zi 124 32 = some (.sipush 400, 3)) (by decide) ?_
  refine Fr.callI (y2 := 54) (na := 5) (as := [rf 65, it r3, it v2, it r5, it 400]) (rest := []) (by decide +kernel : zi 124 35 = some (.invokevirtual 312, 3)) rfl (by decide +kernel) (by decide +kernel) rfl rfl (zok_V rfl (by decide) (by decide +kernel) (by decide +kernel) (zrecv_c (c := 64) (by decide) (by decide +kernel)) rfl (Nat.le_of_ble_eq_true rfl)) h (fun r7 s6 h => ?_)
  exact Fr.retI (by decide +kernel : zi 124 38 = some (.ireturn, 1)) (by decide +kernel) h
theorem e124 {xs : Nat → Int} {L : Nat} {d : Nat} {t1 : Nat} {v2 : Int} {s : Pl} {Q : Option AV → Pl → Prop} (hd : 1 ≤ d) (k : Fr xs L T0 106 (d - 1) 124 0 [some (rf 1), some (rf (21 + 4 * t1 + 1)), some (it v2)] [] s Q) : Ev xs L T0 106 d 124 [rf 1, rf (21 + 4 * t1 + 1), it v2] s Q := Ev.of (by decide) _ rfl hd k
-- 125 X7_staysAt
theorem f125_0 {xs : Nat → Int} {L : Nat} {d : Nat} {v1 : Int} {v2 : Int} {s : Pl} {P : Int → Pl → Prop} (h : Ev xs L T0 106 d 40 [rf 58] s (qi fun r2 s1 => Ev xs L T0 106 d 54 [rf 65, it v2, it 0, it r2, it v1] s1 (qi fun r4 s3 => ((¬ r4 = v1 → P 0 s3) ∧ (¬ (¬ r4 = v1) → P 1 s3))))) : Fr xs L T0 106 d 125 0 [some (rf 1), some (it v1), some (it v2)] [] s (qi P) := by
  refine Fr.aldn (c := 1) (by decide +kernel : zi 125 0 = some (.aload_n 0, 1)) rfl ⟨by omega, by omega⟩ ?_
  refine Fr.gR (c := 0) (c2 := 65) (ci := 7) (k := 7) 7 (by decide +kernel : zi 125 1 = some (.getfield 83, 3)) (by decide +kernel) (by decide +kernel) (by decide +kernel) (by decide) rfl (fun q => q (0, 7, 65) (by decide +kernel)) ?_
  refine Fr.ildn (by decide +kernel : zi 125 4 = some (.iload_n 2, 1)) rfl ?_
  refine Fr.iconst (by decide +kernel : zi 125 5 = some (.iconst 0, 1)) (by decide) ?_
  refine Fr.aldn (c := 1) (by decide +kernel : zi 125 6 = some (.aload_n 0, 1)) rfl ⟨by omega, by omega⟩ ?_
  refine Fr.gR (c := 0) (c2 := 58) (ci := 7) (k := 6) 6 (by decide +kernel : zi 125 7 = some (.getfield 74, 3)) (by decide +kernel) (by decide +kernel) (by decide +kernel) (by decide) rfl (fun q => q (0, 6, 58) (by decide +kernel)) ?_
  refine Fr.callI (y2 := 40) (na := 1) (as := [rf 58]) (rest := [it 0, it v2, rf 65]) (by decide +kernel : zi 125 10 = some (.invokevirtual 230, 3)) rfl (by decide +kernel) (by decide +kernel) rfl rfl (zok_V rfl (by decide) (by decide +kernel) (by decide +kernel) (zrecv_c (c := 57) (by decide) (by decide +kernel)) rfl (Nat.le_of_ble_eq_true rfl)) h (fun r2 s1 h => ?_)
  refine Fr.ildn (by decide +kernel : zi 125 13 = some (.iload_n 1, 1)) rfl ?_
  refine Fr.callI (y2 := 54) (na := 5) (as := [rf 65, it v2, it 0, it r2, it v1]) (rest := []) (by decide +kernel : zi 125 14 = some (.invokevirtual 312, 3)) rfl (by decide +kernel) (by decide +kernel) rfl rfl (zok_V rfl (by decide) (by decide +kernel) (by decide +kernel) (zrecv_c (c := 64) (by decide) (by decide +kernel)) rfl (Nat.le_of_ble_eq_true rfl)) h (fun r4 s3 h => ?_)
  refine Fr.ildn (by decide +kernel : zi 125 17 = some (.iload_n 1, 1)) rfl ?_
  refine Fr.if2 (q := 25) (by decide +kernel : zi 125 18 = some (.if_icmp .ne 7, 3)) (by decide +kernel) (fun g9 => ?_) (fun g9 => ?_)
  · have h := h.1 g9
    refine Fr.iconst (by decide +kernel : zi 125 25 = some (.iconst 0, 1)) (by decide) ?_
    exact Fr.retZ (by decide +kernel : zi 125 26 = some (.ireturn, 1)) (by decide +kernel) (by decide) h
  · have h := h.2 g9
    refine Fr.iconst (by decide +kernel : zi 125 21 = some (.iconst 1, 1)) (by decide) ?_
    refine Fr.goto (q := 26) (by decide +kernel : zi 125 22 = some (.goto 4, 3)) (by decide +kernel) ?_
    exact Fr.retZ (by decide +kernel : zi 125 26 = some (.ireturn, 1)) (by decide +kernel) (by decide) h
theorem e125 {xs : Nat → Int} {L : Nat} {d : Nat} {v1 : Int} {v2 : Int} {s : Pl} {Q : Option AV → Pl → Prop} (hd : 1 ≤ d) (k : Fr xs L T0 106 (d - 1) 125 0 [some (rf 1), some (it v1), some (it v2)] [] s Q) : Ev xs L T0 106 d 125 [rf 1, it v1, it v2] s Q := Ev.of (by decide) _ rfl hd k
-- 126 X7_isLanding
theorem f126_0 {xs : Nat → Int} {L : Nat} {d : Nat} {v0 : Int} {s : Pl} {P : Int → Pl → Prop} (h : ((v0 < 0 → P 0 s) ∧ (¬ (v0 < 0) → ((4 ≤ v0 → P 0 s) ∧ (¬ (4 ≤ v0) → P 1 s))))) : Fr xs L T0 106 d 126 0 [some (it v0)] [] s (qi P) := by
  refine Fr.ildn (by decide +kernel : zi 126 0 = some (.iload_n 0, 1)) rfl ?_
  refine Fr.if0 (q := 13) (by decide +kernel : zi 126 1 = some (.ifCond .lt 12, 3)) (by decide +kernel) (fun g9 => ?_) (fun g9 => ?_)
  · have h := h.1 g9
    refine Fr.iconst (by decide +kernel : zi 126 13 = some (.iconst 0, 1)) (by decide) ?_
    exact Fr.retZ (by decide +kernel : zi 126 14 = some (.ireturn, 1)) (by decide +kernel) (by decide) h
  · have h := h.2 g9
    refine Fr.ildn (by decide +kernel : zi 126 4 = some (.iload_n 0, 1)) rfl ?_
    refine Fr.iconst (by decide +kernel : zi 126 5 = some (.iconst 4, 1)) (by decide) ?_
    refine Fr.if2 (q := 13) (by decide +kernel : zi 126 6 = some (.if_icmp .ge 7, 3)) (by decide +kernel) (fun g9 => ?_) (fun g9 => ?_)
    · have h := h.1 g9
      refine Fr.iconst (by decide +kernel : zi 126 13 = some (.iconst 0, 1)) (by decide) ?_
      exact Fr.retZ (by decide +kernel : zi 126 14 = some (.ireturn, 1)) (by decide +kernel) (by decide) h
    · have h := h.2 g9
      refine Fr.iconst (by decide +kernel : zi 126 9 = some (.iconst 1, 1)) (by decide) ?_
      refine Fr.goto (q := 14) (by decide +kernel : zi 126 10 = some (.goto 4, 3)) (by decide +kernel) ?_
      exact Fr.retZ (by decide +kernel : zi 126 14 = some (.ireturn, 1)) (by decide +kernel) (by decide) h
theorem e126 {xs : Nat → Int} {L : Nat} {d : Nat} {v0 : Int} {s : Pl} {Q : Option AV → Pl → Prop} (hd : 1 ≤ d) (k : Fr xs L T0 106 (d - 1) 126 0 [some (it v0)] [] s Q) : Ev xs L T0 106 d 126 [it v0] s Q := Ev.of (by decide) _ rfl hd k
-- 127 X7_isByte
theorem f127_0 {xs : Nat → Int} {L : Nat} {d : Nat} {v0 : Int} {s : Pl} {P : Int → Pl → Prop} (h : ((v0 < 0 → P 0 s) ∧ (¬ (v0 < 0) → ((255 < v0 → P 0 s) ∧ (¬ (255 < v0) → P 1 s))))) : Fr xs L T0 106 d 127 0 [some (it v0)] [] s (qi P) := by
  refine Fr.ildn (by decide +kernel : zi 127 0 = some (.iload_n 0, 1)) rfl ?_
  refine Fr.if0 (q := 15) (by decide +kernel : zi 127 1 = some (.ifCond .lt 14, 3)) (by decide +kernel) (fun g9 => ?_) (fun g9 => ?_)
  · have h := h.1 g9
    refine Fr.iconst (by decide +kernel : zi 127 15 = some (.iconst 0, 1)) (by decide) ?_
    exact Fr.retZ (by decide +kernel : zi 127 16 = some (.ireturn, 1)) (by decide +kernel) (by decide) h
  · have h := h.2 g9
    refine Fr.ildn (by decide +kernel : zi 127 4 = some (.iload_n 0, 1)) rfl ?_
    refine Fr.sipush (by decide +kernel : zi 127 5 = some (.sipush 255, 3)) (by decide) ?_
    refine Fr.if2 (q := 15) (by decide +kernel : zi 127 8 = some (.if_icmp .gt 7, 3)) (by decide +kernel) (fun g9 => ?_) (fun g9 => ?_)
    · have h := h.1 g9
      refine Fr.iconst (by decide +kernel : zi 127 15 = some (.iconst 0, 1)) (by decide) ?_
      exact Fr.retZ (by decide +kernel : zi 127 16 = some (.ireturn, 1)) (by decide +kernel) (by decide) h
    · have h := h.2 g9
      refine Fr.iconst (by decide +kernel : zi 127 11 = some (.iconst 1, 1)) (by decide) ?_
      refine Fr.goto (q := 16) (by decide +kernel : zi 127 12 = some (.goto 4, 3)) (by decide +kernel) ?_
      exact Fr.retZ (by decide +kernel : zi 127 16 = some (.ireturn, 1)) (by decide +kernel) (by decide) h
theorem e127 {xs : Nat → Int} {L : Nat} {d : Nat} {v0 : Int} {s : Pl} {Q : Option AV → Pl → Prop} (hd : 1 ≤ d) (k : Fr xs L T0 106 (d - 1) 127 0 [some (it v0)] [] s Q) : Ev xs L T0 106 d 127 [it v0] s Q := Ev.of (by decide) _ rfl hd k
-- 128 X7_isSheet
theorem f128_0 {xs : Nat → Int} {L : Nat} {d : Nat} {v0 : Int} {s : Pl} {P : Int → Pl → Prop} (h : ((v0 < 0 → P 0 s) ∧ (¬ (v0 < 0) → ((4 ≤ v0 → P 0 s) ∧ (¬ (4 ≤ v0) → P 1 s))))) : Fr xs L T0 106 d 128 0 [some (it v0)] [] s (qi P) := by
  refine Fr.ildn (by decide +kernel : zi 128 0 = some (.iload_n 0, 1)) rfl ?_
  refine Fr.if0 (q := 13) (by decide +kernel : zi 128 1 = some (.ifCond .lt 12, 3)) (by decide +kernel) (fun g9 => ?_) (fun g9 => ?_)
  · have h := h.1 g9
    refine Fr.iconst (by decide +kernel : zi 128 13 = some (.iconst 0, 1)) (by decide) ?_
    exact Fr.retZ (by decide +kernel : zi 128 14 = some (.ireturn, 1)) (by decide +kernel) (by decide) h
  · have h := h.2 g9
    refine Fr.ildn (by decide +kernel : zi 128 4 = some (.iload_n 0, 1)) rfl ?_
    refine Fr.iconst (by decide +kernel : zi 128 5 = some (.iconst 4, 1)) (by decide) ?_
    refine Fr.if2 (q := 13) (by decide +kernel : zi 128 6 = some (.if_icmp .ge 7, 3)) (by decide +kernel) (fun g9 => ?_) (fun g9 => ?_)
    · have h := h.1 g9
      refine Fr.iconst (by decide +kernel : zi 128 13 = some (.iconst 0, 1)) (by decide) ?_
      exact Fr.retZ (by decide +kernel : zi 128 14 = some (.ireturn, 1)) (by decide +kernel) (by decide) h
    · have h := h.2 g9
      refine Fr.iconst (by decide +kernel : zi 128 9 = some (.iconst 1, 1)) (by decide) ?_
      refine Fr.goto (q := 14) (by decide +kernel : zi 128 10 = some (.goto 4, 3)) (by decide +kernel) ?_
      exact Fr.retZ (by decide +kernel : zi 128 14 = some (.ireturn, 1)) (by decide +kernel) (by decide) h
theorem e128 {xs : Nat → Int} {L : Nat} {d : Nat} {v0 : Int} {s : Pl} {Q : Option AV → Pl → Prop} (hd : 1 ≤ d) (k : Fr xs L T0 106 (d - 1) 128 0 [some (it v0)] [] s Q) : Ev xs L T0 106 d 128 [it v0] s Q := Ev.of (by decide) _ rfl hd k
-- 129 X7_isA
theorem f129_0 {xs : Nat → Int} {L : Nat} {d : Nat} {v0 : Int} {v1 : Int} {s : Pl} {P : Int → Pl → Prop} (h : Fr xs L T0 106 d 129 4 [some (it v0), some (it v1), some (it v0), some (it 0)] [] s (qi P)) : Fr xs L T0 106 d 129 0 [some (it v0), some (it v1), none, none] [] s (qi P) := by
  refine Fr.ildn (by decide +kernel : zi 129 0 = some (.iload_n 0, 1)) rfl ?_
  refine Fr.istn (lv2 := [some (it v0), some (it v1), some (it v0), none]) (by decide +kernel : zi 129 1 = some (.istore_n 2, 1)) (Nat.le_of_ble_eq_true rfl) rfl ?_
  refine Fr.iconst (by decide +kernel : zi 129 2 = some (.iconst 0, 1)) (by decide) ?_
  refine Fr.istn (lv2 := [some (it v0), some (it v1), some (it v0), some (it 0)]) (by decide +kernel : zi 129 3 = some (.istore_n 3, 1)) (Nat.le_of_ble_eq_true rfl) rfl ?_
  exact h
theorem e129 {xs : Nat → Int} {L : Nat} {d : Nat} {v0 : Int} {v1 : Int} {s : Pl} {Q : Option AV → Pl → Prop} (hd : 1 ≤ d) (k : Fr xs L T0 106 (d - 1) 129 0 [some (it v0), some (it v1), none, none] [] s Q) : Ev xs L T0 106 d 129 [it v0, it v1] s Q := Ev.of (by decide) _ rfl hd k
theorem f129_4 {xs : Nat → Int} {L : Nat} {d : Nat} {v0 : Int} {v1 : Int} {v2 : Int} {v3 : Int} {s : Pl} {P : Int → Pl → Prop} (h : ((6 ≤ v3 → P 0 s) ∧ (¬ (6 ≤ v3) → ((v2 < 0 → P 0 s) ∧ (¬ (v2 < 0) → ((((zgiv xs L 0).1 : Int) ≤ v2 → P 0 s) ∧ (¬ (((zgiv xs L 0).1 : Int) ≤ v2) → ((¬ v2 = v1 → (0 ≤ v2 ∧ v2 < 6) ∧ Fr xs L T0 106 d 129 4 [some (it v0), some (it v1), some (it ((zgiv xs L 0).2 v2)), some (it (zw (v3 + 1)))] [] s (qi P)) ∧ (¬ (¬ v2 = v1) → P 1 s))))))))) : Fr xs L T0 106 d 129 4 [some (it v0), some (it v1), some (it v2), some (it v3)] [] s (qi P) := by
  refine Fr.ildn (by decide +kernel : zi 129 4 = some (.iload_n 3, 1)) rfl ?_
  refine Fr.bipush (by decide +kernel : zi 129 5 = some (.bipush 6, 2)) (by decide) ?_
  refine Fr.if2 (q := 41) (by decide +kernel : zi 129 7 = some (.if_icmp .ge 34, 3)) (by decide +kernel) (fun g9 => ?_) (fun g9 => ?_)
  · have h := h.1 g9
    refine Fr.iconst (by decide +kernel : zi 129 41 = some (.iconst 0, 1)) (by decide) ?_
    exact Fr.retZ (by decide +kernel : zi 129 42 = some (.ireturn, 1)) (by decide +kernel) (by decide) h
  · have h := h.2 g9
    refine Fr.ildn (by decide +kernel : zi 129 10 = some (.iload_n 2, 1)) rfl ?_
    refine Fr.if0 (q := 41) (by decide +kernel : zi 129 11 = some (.ifCond .lt 30, 3)) (by decide +kernel) (fun g9 => ?_) (fun g9 => ?_)
    · have h := h.1 g9
      refine Fr.iconst (by decide +kernel : zi 129 41 = some (.iconst 0, 1)) (by decide) ?_
      exact Fr.retZ (by decide +kernel : zi 129 42 = some (.ireturn, 1)) (by decide +kernel) (by decide) h
    · have h := h.2 g9
      refine Fr.ildn (by decide +kernel : zi 129 14 = some (.iload_n 2, 1)) rfl ?_
      refine Fr.gets (v := rf 100000) (by decide +kernel : zi 129 15 = some (.getstatic 315, 3)) (by decide +kernel) ?_
      refine Fr.glen (j := 0) (by decide +kernel : zi 129 18 = some (.arraylength, 1)) (by decide) ?_
      refine Fr.if2 (q := 41) (by decide +kernel : zi 129 19 = some (.if_icmp .ge 22, 3)) (by decide +kernel) (fun g9 => ?_) (fun g9 => ?_)
      · have h := h.1 g9
        refine Fr.iconst (by decide +kernel : zi 129 41 = some (.iconst 0, 1)) (by decide) ?_
        exact Fr.retZ (by decide +kernel : zi 129 42 = some (.ireturn, 1)) (by decide +kernel) (by decide) h
      · have h := h.2 g9
        refine Fr.ildn (by decide +kernel : zi 129 22 = some (.iload_n 2, 1)) rfl ?_
        refine Fr.ildn (by decide +kernel : zi 129 23 = some (.iload_n 1, 1)) rfl ?_
        refine Fr.if2 (q := 29) (by decide +kernel : zi 129 24 = some (.if_icmp .ne 5, 3)) (by decide +kernel) (fun g9 => ?_) (fun g9 => ?_)
        · have h := h.1 g9
          refine Fr.gets (v := rf 100000) (by decide +kernel : zi 129 29 = some (.getstatic 315, 3)) (by decide +kernel) ?_
          refine Fr.ildn (by decide +kernel : zi 129 32 = some (.iload_n 2, 1)) rfl ?_
          obtain ⟨⟨g0, g1⟩, h⟩ := h
          refine Fr.giv (j := 0) (by decide +kernel : zi 129 33 = some (.iaload, 1)) (by decide) g0 (show _ < ((zgiv xs L 0).1 : Int) from g1) ?_
          refine Fr.istn (lv2 := [some (it v0), some (it v1), some (it ((zgiv xs L 0).2 v2)), some (it v3)]) (by decide +kernel : zi 129 34 = some (.istore_n 2, 1)) (Nat.le_of_ble_eq_true rfl) rfl ?_
          refine Fr.iinc (lv2 := [some (it v0), some (it v1), some (it ((zgiv xs L 0).2 v2)), some (it (zw (v3 + 1)))]) (by decide +kernel : zi 129 35 = some (.iinc 3 1, 3)) (Nat.le_of_ble_eq_true rfl) rfl rfl ?_
          refine Fr.goto (q := 4) (by decide +kernel : zi 129 38 = some (.goto (-34), 3)) (by decide +kernel) ?_
          exact h
        · have h := h.2 g9
          refine Fr.iconst (by decide +kernel : zi 129 27 = some (.iconst 1, 1)) (by decide) ?_
          exact Fr.retZ (by decide +kernel : zi 129 28 = some (.ireturn, 1)) (by decide +kernel) (by decide) h
-- 130 X7_commonDivisor
theorem f130_0 {xs : Nat → Int} {L : Nat} {d : Nat} {v0 : Int} {v1 : Int} {s : Pl} {P : Int → Pl → Prop} (h : Fr xs L T0 106 d 130 7 [some (it v0), some (it v1), some (it v1), some (it v0), some (it 0), none] [] s (qi P)) : Fr xs L T0 106 d 130 0 [some (it v0), some (it v1), none, none, none, none] [] s (qi P) := by
  refine Fr.ildn (by decide +kernel : zi 130 0 = some (.iload_n 1, 1)) rfl ?_
  refine Fr.istn (lv2 := [some (it v0), some (it v1), some (it v1), none, none, none]) (by decide +kernel : zi 130 1 = some (.istore_n 2, 1)) (Nat.le_of_ble_eq_true rfl) rfl ?_
  refine Fr.ildn (by decide +kernel : zi 130 2 = some (.iload_n 0, 1)) rfl ?_
  refine Fr.istn (lv2 := [some (it v0), some (it v1), some (it v1), some (it v0), none, none]) (by decide +kernel : zi 130 3 = some (.istore_n 3, 1)) (Nat.le_of_ble_eq_true rfl) rfl ?_
  refine Fr.iconst (by decide +kernel : zi 130 4 = some (.iconst 0, 1)) (by decide) ?_
  refine Fr.ist (lv2 := [some (it v0), some (it v1), some (it v1), some (it v0), some (it 0), none]) (by decide +kernel : zi 130 5 = some (.istore 4, 2)) (Nat.le_of_ble_eq_true rfl) rfl ?_
  exact h
theorem e130 {xs : Nat → Int} {L : Nat} {d : Nat} {v0 : Int} {v1 : Int} {s : Pl} {Q : Option AV → Pl → Prop} (hd : 1 ≤ d) (k : Fr xs L T0 106 (d - 1) 130 0 [some (it v0), some (it v1), none, none, none, none] [] s Q) : Ev xs L T0 106 d 130 [it v0, it v1] s Q := Ev.of (by decide) _ rfl hd k
theorem f130_7 {xs : Nat → Int} {L : Nat} {d : Nat} {v0 : Int} {v1 : Int} {v2 : Int} {v3 : Int} {v4 : Int} {w5 : Option AV} {s : Pl} {P : Int → Pl → Prop} (h : ((64 ≤ v4 → P v2 s) ∧ (¬ (64 ≤ v4) → ((v3 = 0 → P v2 s) ∧ (¬ (v3 = 0) → (¬ v3 = 0) ∧ Fr xs L T0 106 d 130 7 [some (it v0), some (it v1), some (it v3), some (it (zrem v2 v3)), some (it (zw (v4 + 1))), some (it (zrem v2 v3))] [] s (qi P)))))) : Fr xs L T0 106 d 130 7 [some (it v0), some (it v1), some (it v2), some (it v3), some (it v4), w5] [] s (qi P) := by
  refine Fr.ild (by decide +kernel : zi 130 7 = some (.iload 4, 2)) rfl ?_
  refine Fr.bipush (by decide +kernel : zi 130 9 = some (.bipush 64, 2)) (by decide) ?_
  refine Fr.if2 (q := 34) (by decide +kernel : zi 130 11 = some (.if_icmp .ge 23, 3)) (by decide +kernel) (fun g9 => ?_) (fun g9 => ?_)
  · have h := h.1 g9
    refine Fr.ildn (by decide +kernel : zi 130 34 = some (.iload_n 2, 1)) rfl ?_
    exact Fr.retI (by decide +kernel : zi 130 35 = some (.ireturn, 1)) (by decide +kernel) h
  · have h := h.2 g9
    refine Fr.ildn (by decide +kernel : zi 130 14 = some (.iload_n 3, 1)) rfl ?_
    refine Fr.if0 (q := 34) (by decide +kernel : zi 130 15 = some (.ifCond .eq 19, 3)) (by decide +kernel) (fun g9 => ?_) (fun g9 => ?_)
    · have h := h.1 g9
      refine Fr.ildn (by decide +kernel : zi 130 34 = some (.iload_n 2, 1)) rfl ?_
      exact Fr.retI (by decide +kernel : zi 130 35 = some (.ireturn, 1)) (by decide +kernel) h
    · have h := h.2 g9
      refine Fr.ildn (by decide +kernel : zi 130 18 = some (.iload_n 2, 1)) rfl ?_
      refine Fr.ildn (by decide +kernel : zi 130 19 = some (.iload_n 3, 1)) rfl ?_
      obtain ⟨g0, h⟩ := h
      refine Fr.irem (by decide +kernel : zi 130 20 = some (.irem, 1)) g0 ?_
      refine Fr.ist (lv2 := [some (it v0), some (it v1), some (it v2), some (it v3), some (it v4), some (it (zrem v2 v3))]) (by decide +kernel : zi 130 21 = some (.istore 5, 2)) (Nat.le_of_ble_eq_true rfl) rfl ?_
      refine Fr.ildn (by decide +kernel : zi 130 23 = some (.iload_n 3, 1)) rfl ?_
      refine Fr.istn (lv2 := [some (it v0), some (it v1), some (it v3), some (it v3), some (it v4), some (it (zrem v2 v3))]) (by decide +kernel : zi 130 24 = some (.istore_n 2, 1)) (Nat.le_of_ble_eq_true rfl) rfl ?_
      refine Fr.ild (by decide +kernel : zi 130 25 = some (.iload 5, 2)) rfl ?_
      refine Fr.istn (lv2 := [some (it v0), some (it v1), some (it v3), some (it (zrem v2 v3)), some (it v4), some (it (zrem v2 v3))]) (by decide +kernel : zi 130 27 = some (.istore_n 3, 1)) (Nat.le_of_ble_eq_true rfl) rfl ?_
      refine Fr.iinc (lv2 := [some (it v0), some (it v1), some (it v3), some (it (zrem v2 v3)), some (it (zw (v4 + 1))), some (it (zrem v2 v3))]) (by decide +kernel : zi 130 28 = some (.iinc 4 1, 3)) (Nat.le_of_ble_eq_true rfl) rfl rfl ?_
      refine Fr.goto (q := 7) (by decide +kernel : zi 130 31 = some (.goto (-24), 3)) (by decide +kernel) ?_
      exact h
