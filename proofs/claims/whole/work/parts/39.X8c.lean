-- 190 X8_where
theorem f190_0 {xs : Nat → Int} {L : Nat} {d : Nat} {v1 : Int} {v2 : Int} {s : Pl} {P : Int → Pl → Prop} (h : Ev xs L T0 106 d 132 [it v1, it 0, it (s 72 29)] s (qi fun r2 s1 => ((r2 = 0 → P (-5) s1) ∧ (¬ (r2 = 0) → Ev xs L T0 106 d 135 [rf 73, it v2] s1 (qi fun r4 s3 => ((¬ r4 = 0 → Ev xs L T0 106 d 188 [rf 73, it v1] s3 (qv fun s5 => (0 ≤ v2 ∧ v2 < 7) ∧ Ev xs L T0 106 d 185 [rf 73] s5 (qv fun s6 => P (s5 75 v2) s6))) ∧ (¬ (¬ r4 = 0) → P (-5) s3))))))) : Fr xs L T0 106 d 190 0 [some (rf 73), some (it v1), some (it v2), none] [] s (qi P) := by
  refine Fr.ildn (by decide +kernel : zi 190 0 = some (.iload_n 1, 1)) rfl ?_
  refine Fr.iconst (by decide +kernel : zi 190 1 = some (.iconst 0, 1)) (by decide) ?_
  refine Fr.aldn (c := 73) (by decide +kernel : zi 190 2 = some (.aload_n 0, 1)) rfl ⟨by omega, by omega⟩ ?_
  refine Fr.gI (c := 72) (ci := 8) (k := 29) (t := 0) 29 (by decide +kernel : zi 190 3 = some (.getfield 136, 3)) (by decide +kernel) (by decide +kernel) (by decide +kernel) (by decide) rfl ?_
  refine Fr.callI (y2 := 132) (na := 3) (as := [it v1, it 0, it (s 72 29)]) (rest := []) (by decide +kernel : zi 190 6 = some (.invokestatic 118, 3)) rfl (by decide +kernel) (by decide +kernel) rfl rfl (zok_S rfl (by decide) (by decide +kernel) rfl (Nat.le_of_ble_eq_true rfl)) h (fun r2 s1 h => ?_)
  refine Fr.if0 (q := 20) (by decide +kernel : zi 190 9 = some (.ifCond .eq 11, 3)) (by decide +kernel) (fun g9 => ?_) (fun g9 => ?_)
  · have h := h.1 g9
    refine Fr.bipush (by decide +kernel : zi 190 20 = some (.bipush (-5), 2)) (by decide) ?_
    exact Fr.retI (by decide +kernel : zi 190 22 = some (.ireturn, 1)) (by decide +kernel) h
  · have h := h.2 g9
    refine Fr.aldn (c := 73) (by decide +kernel : zi 190 12 = some (.aload_n 0, 1)) rfl ⟨by omega, by omega⟩ ?_
    refine Fr.ildn (by decide +kernel : zi 190 13 = some (.iload_n 2, 1)) rfl ?_
    refine Fr.callI (y2 := 135) (na := 2) (as := [rf 73, it v2]) (rest := []) (by decide +kernel : zi 190 14 = some (.invokevirtual 237, 3)) rfl (by decide +kernel) (by decide +kernel) rfl rfl (zok_V rfl (by decide) (by decide +kernel) (by decide +kernel) (zrecv_c (c := 72) (by decide) (by decide +kernel)) rfl (Nat.le_of_ble_eq_true rfl)) h (fun r4 s3 h => ?_)
    refine Fr.if0 (q := 23) (by decide +kernel : zi 190 17 = some (.ifCond .ne 6, 3)) (by decide +kernel) (fun g9 => ?_) (fun g9 => ?_)
    · have h := h.1 g9
      refine Fr.aldn (c := 73) (by decide +kernel : zi 190 23 = some (.aload_n 0, 1)) rfl ⟨by omega, by omega⟩ ?_
      refine Fr.ildn (by decide +kernel : zi 190 24 = some (.iload_n 1, 1)) rfl ?_
      refine Fr.callV (y2 := 188) (na := 2) (as := [rf 73, it v1]) (rest := []) (by decide +kernel : zi 190 25 = some (.invokevirtual 290, 3)) rfl (by decide +kernel) (by decide +kernel) rfl rfl (zok_V rfl (by decide) (by decide +kernel) (by decide +kernel) (zrecv_c (c := 72) (by decide) (by decide +kernel)) rfl (Nat.le_of_ble_eq_true rfl)) h (fun s5 h => ?_)
      refine Fr.aldn (c := 73) (by decide +kernel : zi 190 28 = some (.aload_n 0, 1)) rfl ⟨by omega, by omega⟩ ?_
      refine Fr.gR (c := 72) (c2 := 76) (ci := 8) (k := 5) 5 (by decide +kernel : zi 190 29 = some (.getfield 16, 3)) (by decide +kernel) (by decide +kernel) (by decide +kernel) (by decide) rfl (fun q => q (72, 5, 76) (by decide +kernel)) ?_
      refine Fr.ildn (by decide +kernel : zi 190 32 = some (.iload_n 2, 1)) rfl ?_
      obtain ⟨⟨g0, g1⟩, h⟩ := h
      refine Fr.iald (c := 75) (N := 7) (by decide +kernel : zi 190 33 = some (.iaload, 1)) (by decide +kernel) (by decide) g0 g1 ?_
      refine Fr.istn (lv2 := [some (rf 73), some (it v1), some (it v2), some (it (s5 75 v2))]) (by decide +kernel : zi 190 34 = some (.istore_n 3, 1)) (Nat.le_of_ble_eq_true rfl) rfl ?_
      refine Fr.aldn (c := 73) (by decide +kernel : zi 190 35 = some (.aload_n 0, 1)) rfl ⟨by omega, by omega⟩ ?_
      refine Fr.callV (y2 := 185) (na := 1) (as := [rf 73]) (rest := []) (by decide +kernel : zi 190 36 = some (.invokevirtual 281, 3)) rfl (by decide +kernel) (by decide +kernel) rfl rfl (zok_V rfl (by decide) (by decide +kernel) (by decide +kernel) (zrecv_c (c := 72) (by decide) (by decide +kernel)) rfl (Nat.le_of_ble_eq_true rfl)) h (fun s6 h => ?_)
      refine Fr.ildn (by decide +kernel : zi 190 39 = some (.iload_n 3, 1)) rfl ?_
      exact Fr.retI (by decide +kernel : zi 190 40 = some (.ireturn, 1)) (by decide +kernel) h
    · have h := h.2 g9
      refine Fr.bipush (by decide +kernel : zi 190 20 = some (.bipush (-5), 2)) (by decide) ?_
      exact Fr.retI (by decide +kernel : zi 190 22 = some (.ireturn, 1)) (by decide +kernel) h
theorem e190 {xs : Nat → Int} {L : Nat} {d : Nat} {v1 : Int} {v2 : Int} {s : Pl} {Q : Option AV → Pl → Prop} (hd : 1 ≤ d) (k : Fr xs L T0 106 (d - 1) 190 0 [some (rf 73), some (it v1), some (it v2), none] [] s Q) : Ev xs L T0 106 d 190 [rf 73, it v1, it v2] s Q := Ev.of (by decide) _ rfl hd k
-- 191 X8_codeNow
theorem f191_0 {xs : Nat → Int} {L : Nat} {d : Nat}  {s : Pl} {P : Int → Pl → Prop} (h : Fr xs L T0 106 d 191 7 [some (rf 73), some (it (s 72 2)), some (it 0)] [] s (qi P)) : Fr xs L T0 106 d 191 0 [some (rf 73), none, none] [] s (qi P) := by
  refine Fr.aldn (c := 73) (by decide +kernel : zi 191 0 = some (.aload_n 0, 1)) rfl ⟨by omega, by omega⟩ ?_
  refine Fr.gI (c := 72) (ci := 8) (k := 2) (t := 0) 2 (by decide +kernel : zi 191 1 = some (.getfield 129, 3)) (by decide +kernel) (by decide +kernel) (by decide +kernel) (by decide) rfl ?_
  refine Fr.istn (lv2 := [some (rf 73), some (it (s 72 2)), none]) (by decide +kernel : zi 191 4 = some (.istore_n 1, 1)) (Nat.le_of_ble_eq_true rfl) rfl ?_
  refine Fr.iconst (by decide +kernel : zi 191 5 = some (.iconst 0, 1)) (by decide) ?_
  refine Fr.istn (lv2 := [some (rf 73), some (it (s 72 2)), some (it 0)]) (by decide +kernel : zi 191 6 = some (.istore_n 2, 1)) (Nat.le_of_ble_eq_true rfl) rfl ?_
  exact h
theorem e191 {xs : Nat → Int} {L : Nat} {d : Nat}  {s : Pl} {Q : Option AV → Pl → Prop} (hd : 1 ≤ d) (k : Fr xs L T0 106 (d - 1) 191 0 [some (rf 73), none, none] [] s Q) : Ev xs L T0 106 d 191 [rf 73] s Q := Ev.of (by decide) _ rfl hd k
theorem f191_7 {xs : Nat → Int} {L : Nat} {d : Nat} {v1 : Int} {v2 : Int} {s : Pl} {P : Int → Pl → Prop} (h : ((s 72 3 ≤ v2 → P v1 s) ∧ (¬ (s 72 3 ≤ v2) → (0 ≤ v2 ∧ v2 < 7) ∧ Fr xs L T0 106 d 191 7 [some (rf 73), some (it (zw ((zw (5 * v1)) + (s 75 v2)))), some (it (zw (v2 + 1)))] [] s (qi P)))) : Fr xs L T0 106 d 191 7 [some (rf 73), some (it v1), some (it v2)] [] s (qi P) := by
  refine Fr.ildn (by decide +kernel : zi 191 7 = some (.iload_n 2, 1)) rfl ?_
  refine Fr.aldn (c := 73) (by decide +kernel : zi 191 8 = some (.aload_n 0, 1)) rfl ⟨by omega, by omega⟩ ?_
  refine Fr.gI (c := 72) (ci := 8) (k := 3) (t := 0) 3 (by decide +kernel : zi 191 9 = some (.getfield 122, 3)) (by decide +kernel) (by decide +kernel) (by decide +kernel) (by decide) rfl ?_
  refine Fr.if2 (q := 32) (by decide +kernel : zi 191 12 = some (.if_icmp .ge 20, 3)) (by decide +kernel) (fun g9 => ?_) (fun g9 => ?_)
  · have h := h.1 g9
    refine Fr.ildn (by decide +kernel : zi 191 32 = some (.iload_n 1, 1)) rfl ?_
    exact Fr.retI (by decide +kernel : zi 191 33 = some (.ireturn, 1)) (by decide +kernel) h
  · have h := h.2 g9
    refine Fr.iconst (by decide +kernel : zi 191 15 = some (.iconst 5, 1)) (by decide) ?_
    refine Fr.ildn (by decide +kernel : zi 191 16 = some (.iload_n 1, 1)) rfl ?_
    refine Fr.imul (by decide +kernel : zi 191 17 = some (.imul, 1)) ?_
    refine Fr.aldn (c := 73) (by decide +kernel : zi 191 18 = some (.aload_n 0, 1)) rfl ⟨by omega, by omega⟩ ?_
    refine Fr.gR (c := 72) (c2 := 76) (ci := 8) (k := 5) 5 (by decide +kernel : zi 191 19 = some (.getfield 16, 3)) (by decide +kernel) (by decide +kernel) (by decide +kernel) (by decide) rfl (fun q => q (72, 5, 76) (by decide +kernel)) ?_
    refine Fr.ildn (by decide +kernel : zi 191 22 = some (.iload_n 2, 1)) rfl ?_
    obtain ⟨⟨g0, g1⟩, h⟩ := h
    refine Fr.iald (c := 75) (N := 7) (by decide +kernel : zi 191 23 = some (.iaload, 1)) (by decide +kernel) (by decide) g0 g1 ?_
    refine Fr.iadd (by decide +kernel : zi 191 24 = some (.iadd, 1)) ?_
    refine Fr.istn (lv2 := [some (rf 73), some (it (zw ((zw (5 * v1)) + (s 75 v2)))), some (it v2)]) (by decide +kernel : zi 191 25 = some (.istore_n 1, 1)) (Nat.le_of_ble_eq_true rfl) rfl ?_
    refine Fr.iinc (lv2 := [some (rf 73), some (it (zw ((zw (5 * v1)) + (s 75 v2)))), some (it (zw (v2 + 1)))]) (by decide +kernel : zi 191 26 = some (.iinc 2 1, 3)) (Nat.le_of_ble_eq_true rfl) rfl rfl ?_
    refine Fr.goto (q := 7) (by decide +kernel : zi 191 29 = some (.goto (-22), 3)) (by decide +kernel) ?_
    exact h
-- 192 X8_beAt
theorem f192_0 {xs : Nat → Int} {L : Nat} {d : Nat} {v1 : Int} {s : Pl} {P : Pl → Prop} (h : Fr xs L T0 106 d 192 9 [some (rf 73), some (it v1), some (it v1), some (it (zw ((s 72 3) - 1)))] [] s (qv P)) : Fr xs L T0 106 d 192 0 [some (rf 73), some (it v1), none, none] [] s (qv P) := by
  refine Fr.ildn (by decide +kernel : zi 192 0 = some (.iload_n 1, 1)) rfl ?_
  refine Fr.istn (lv2 := [some (rf 73), some (it v1), some (it v1), none]) (by decide +kernel : zi 192 1 = some (.istore_n 2, 1)) (Nat.le_of_ble_eq_true rfl) rfl ?_
  refine Fr.aldn (c := 73) (by decide +kernel : zi 192 2 = some (.aload_n 0, 1)) rfl ⟨by omega, by omega⟩ ?_
  refine Fr.gI (c := 72) (ci := 8) (k := 3) (t := 0) 3 (by decide +kernel : zi 192 3 = some (.getfield 122, 3)) (by decide +kernel) (by decide +kernel) (by decide +kernel) (by decide) rfl ?_
  refine Fr.iconst (by decide +kernel : zi 192 6 = some (.iconst 1, 1)) (by decide) ?_
  refine Fr.isub (by decide +kernel : zi 192 7 = some (.isub, 1)) ?_
  refine Fr.istn (lv2 := [some (rf 73), some (it v1), some (it v1), some (it (zw ((s 72 3) - 1)))]) (by decide +kernel : zi 192 8 = some (.istore_n 3, 1)) (Nat.le_of_ble_eq_true rfl) rfl ?_
  exact h
theorem e192 {xs : Nat → Int} {L : Nat} {d : Nat} {v1 : Int} {s : Pl} {Q : Option AV → Pl → Prop} (hd : 1 ≤ d) (k : Fr xs L T0 106 (d - 1) 192 0 [some (rf 73), some (it v1), none, none] [] s Q) : Ev xs L T0 106 d 192 [rf 73, it v1] s Q := Ev.of (by decide) _ rfl hd k
theorem f192_9 {xs : Nat → Int} {L : Nat} {d : Nat} {v1 : Int} {v2 : Int} {v3 : Int} {s : Pl} {P : Pl → Prop} (h : ((v3 < 0 → P (zup s 72 2 v2)) ∧ (¬ (v3 < 0) → (0 ≤ v3 ∧ v3 < 7) ∧ Fr xs L T0 106 d 192 9 [some (rf 73), some (it v1), some (it (zdiv v2 5)), some (it (zw (v3 + (-1))))] [] (zup s 75 v3 (zrem v2 5)) (qv P)))) : Fr xs L T0 106 d 192 9 [some (rf 73), some (it v1), some (it v2), some (it v3)] [] s (qv P) := by
  refine Fr.ildn (by decide +kernel : zi 192 9 = some (.iload_n 3, 1)) rfl ?_
  refine Fr.if0 (q := 32) (by decide +kernel : zi 192 10 = some (.ifCond .lt 22, 3)) (by decide +kernel) (fun g9 => ?_) (fun g9 => ?_)
  · have h := h.1 g9
    refine Fr.aldn (c := 73) (by decide +kernel : zi 192 32 = some (.aload_n 0, 1)) rfl ⟨by omega, by omega⟩ ?_
    refine Fr.ildn (by decide +kernel : zi 192 33 = some (.iload_n 2, 1)) rfl ?_
    refine Fr.pI (c := 72) (ci := 8) (k := 2) 2 (by decide +kernel : zi 192 34 = some (.putfield 129, 3)) (by decide +kernel) (by decide +kernel) (by decide +kernel) (by decide) rfl ?_
    exact Fr.retV (by decide +kernel : zi 192 37 = some (.return_, 1)) (by decide +kernel) h
  · have h := h.2 g9
    refine Fr.aldn (c := 73) (by decide +kernel : zi 192 13 = some (.aload_n 0, 1)) rfl ⟨by omega, by omega⟩ ?_
    refine Fr.gR (c := 72) (c2 := 76) (ci := 8) (k := 5) 5 (by decide +kernel : zi 192 14 = some (.getfield 16, 3)) (by decide +kernel) (by decide +kernel) (by decide +kernel) (by decide) rfl (fun q => q (72, 5, 76) (by decide +kernel)) ?_
    refine Fr.ildn (by decide +kernel : zi 192 17 = some (.iload_n 3, 1)) rfl ?_
    refine Fr.ildn (by decide +kernel : zi 192 18 = some (.iload_n 2, 1)) rfl ?_
    refine Fr.iconst (by decide +kernel : zi 192 19 = some (.iconst 5, 1)) (by decide) ?_
    refine Fr.irem (by decide +kernel : zi 192 20 = some (.irem, 1)) (by decide) ?_
    obtain ⟨⟨g0, g1⟩, h⟩ := h
    refine Fr.iast (c := 75) (N := 7) (by decide +kernel : zi 192 21 = some (.iastore, 1)) (by decide +kernel) (by decide) g0 g1 ?_
    refine Fr.ildn (by decide +kernel : zi 192 22 = some (.iload_n 2, 1)) rfl ?_
    refine Fr.iconst (by decide +kernel : zi 192 23 = some (.iconst 5, 1)) (by decide) ?_
    refine Fr.idiv (by decide +kernel : zi 192 24 = some (.idiv, 1)) (by decide) ?_
    refine Fr.istn (lv2 := [some (rf 73), some (it v1), some (it (zdiv v2 5)), some (it v3)]) (by decide +kernel : zi 192 25 = some (.istore_n 2, 1)) (Nat.le_of_ble_eq_true rfl) rfl ?_
    refine Fr.iinc (lv2 := [some (rf 73), some (it v1), some (it (zdiv v2 5)), some (it (zw (v3 + (-1))))]) (by decide +kernel : zi 192 26 = some (.iinc 3 (-1), 3)) (Nat.le_of_ble_eq_true rfl) rfl rfl ?_
    refine Fr.goto (q := 9) (by decide +kernel : zi 192 29 = some (.goto (-20), 3)) (by decide +kernel) ?_
    exact h
-- 193 X8_comes
theorem f193_0 {xs : Nat → Int} {L : Nat} {d : Nat} {v1 : Int} {s : Pl} {P : Pl → Prop} (h : ((v1 ≤ 400 → Ev xs L T0 106 d 191 [rf 73] s (qi fun r2 s1 => Fr xs L T0 106 d 193 22 [some (rf 73), some (it v1), some (it r2), some (it (zrem (zw (r2 * 31)) 4096))] [] s1 (qv P))) ∧ (¬ (v1 ≤ 400) → P s))) : Fr xs L T0 106 d 193 0 [some (rf 73), some (it v1), none, none] [] s (qv P) := by
  refine Fr.ildn (by decide +kernel : zi 193 0 = some (.iload_n 1, 1)) rfl ?_
  refine Fr.sipush (by decide +kernel : zi 193 1 = some (.sipush 400, 3)) (by decide) ?_
  refine Fr.if2 (q := 8) (by decide +kernel : zi 193 4 = some (.if_icmp .le 4, 3)) (by decide +kernel) (fun g9 => ?_) (fun g9 => ?_)
  · have h := h.1 g9
    refine Fr.aldn (c := 73) (by decide +kernel : zi 193 8 = some (.aload_n 0, 1)) rfl ⟨by omega, by omega⟩ ?_
    refine Fr.callI (y2 := 191) (na := 1) (as := [rf 73]) (rest := []) (by decide +kernel : zi 193 9 = some (.invokevirtual 296, 3)) rfl (by decide +kernel) (by decide +kernel) rfl rfl (zok_V rfl (by decide) (by decide +kernel) (by decide +kernel) (zrecv_c (c := 72) (by decide) (by decide +kernel)) rfl (Nat.le_of_ble_eq_true rfl)) h (fun r2 s1 h => ?_)
    refine Fr.istn (lv2 := [some (rf 73), some (it v1), some (it r2), none]) (by decide +kernel : zi 193 12 = some (.istore_n 2, 1)) (Nat.le_of_ble_eq_true rfl) rfl ?_
    refine Fr.ildn (by decide +kernel : zi 193 13 = some (.iload_n 2, 1)) rfl ?_
    refine Fr.bipush (by decide +kernel : zi 193 14 = some (.bipush 31, 2)) (by decide) ?_
    refine Fr.imul (by decide +kernel : zi 193 16 = some (.imul, 1)) ?_
    refine Fr.sipush (by decide +kernel : zi 193 17 = some (.sipush 4096, 3)) (by decide) ?_
    refine Fr.irem (by decide +kernel : zi 193 20 = some (.irem, 1)) (by decide) ?_
    refine Fr.istn (lv2 := [some (rf 73), some (it v1), some (it r2), some (it (zrem (zw (r2 * 31)) 4096))]) (by decide +kernel : zi 193 21 = some (.istore_n 3, 1)) (Nat.le_of_ble_eq_true rfl) rfl ?_
    exact h
  · have h := h.2 g9
    exact Fr.retV (by decide +kernel : zi 193 7 = some (.return_, 1)) (by decide +kernel) h
theorem e193 {xs : Nat → Int} {L : Nat} {d : Nat} {v1 : Int} {s : Pl} {Q : Option AV → Pl → Prop} (hd : 1 ≤ d) (k : Fr xs L T0 106 (d - 1) 193 0 [some (rf 73), some (it v1), none, none] [] s Q) : Ev xs L T0 106 d 193 [rf 73, it v1] s Q := Ev.of (by decide) _ rfl hd k
theorem f193_22 {xs : Nat → Int} {L : Nat} {d : Nat} {v1 : Int} {v2 : Int} {v3 : Int} {s : Pl} {P : Pl → Prop} (h : (0 ≤ v3 ∧ v3 < 4096) ∧ ((s 96 v3 ≤ 0 → Fr xs L T0 106 d 193 66 [some (rf 73), some (it v1), some (it v2), some (it v3)] [] s (qv P)) ∧ (¬ (s 96 v3 ≤ 0) → (0 ≤ v3 ∧ v3 < 4096) ∧ (0 ≤ zw ((s 96 v3) - 1) ∧ zw ((s 96 v3) - 1) < 1500) ∧ ((s 93 (zw ((s 96 v3) - 1)) = v2 → Fr xs L T0 106 d 193 66 [some (rf 73), some (it v1), some (it v2), some (it v3)] [] s (qv P)) ∧ (¬ (s 93 (zw ((s 96 v3) - 1)) = v2) → ((¬ v3 = 4095 → Fr xs L T0 106 d 193 62 [some (rf 73), some (it v1), some (it v2), some (it v3)] [it (zw (v3 + 1))] s (qv P)) ∧ (¬ (¬ v3 = 4095) → Fr xs L T0 106 d 193 62 [some (rf 73), some (it v1), some (it v2), some (it v3)] [it 0] s (qv P)))))))) : Fr xs L T0 106 d 193 22 [some (rf 73), some (it v1), some (it v2), some (it v3)] [] s (qv P) := by
  refine Fr.aldn (c := 73) (by decide +kernel : zi 193 22 = some (.aload_n 0, 1)) rfl ⟨by omega, by omega⟩ ?_
  refine Fr.gR (c := 72) (c2 := 97) (ci := 8) (k := 41) 41 (by decide +kernel : zi 193 23 = some (.getfield 85, 3)) (by decide +kernel) (by decide +kernel) (by decide +kernel) (by decide) rfl (fun q => q (72, 41, 97) (by decide +kernel)) ?_
  refine Fr.ildn (by decide +kernel : zi 193 26 = some (.iload_n 3, 1)) rfl ?_
  obtain ⟨⟨g0, g1⟩, h⟩ := h
  refine Fr.iald (c := 96) (N := 4096) (by decide +kernel : zi 193 27 = some (.iaload, 1)) (by decide +kernel) (by decide) g0 g1 ?_
  refine Fr.if0 (q := 66) (by decide +kernel : zi 193 28 = some (.ifCond .le 38, 3)) (by decide +kernel) (fun g9 => ?_) (fun g9 => ?_)
  · have h := h.1 g9
    exact h
  · have h := h.2 g9
    refine Fr.aldn (c := 73) (by decide +kernel : zi 193 31 = some (.aload_n 0, 1)) rfl ⟨by omega, by omega⟩ ?_
    refine Fr.gR (c := 72) (c2 := 94) (ci := 8) (k := 38) 38 (by decide +kernel : zi 193 32 = some (.getfield 75, 3)) (by decide +kernel) (by decide +kernel) (by decide +kernel) (by decide) rfl (fun q => q (72, 38, 94) (by decide +kernel)) ?_
    refine Fr.aldn (c := 73) (by decide +kernel : zi 193 35 = some (.aload_n 0, 1)) rfl ⟨by omega, by omega⟩ ?_
    refine Fr.gR (c := 72) (c2 := 97) (ci := 8) (k := 41) 41 (by decide +kernel : zi 193 36 = some (.getfield 85, 3)) (by decide +kernel) (by decide +kernel) (by decide +kernel) (by decide) rfl (fun q => q (72, 41, 97) (by decide +kernel)) ?_
    refine Fr.ildn (by decide +kernel : zi 193 39 = some (.iload_n 3, 1)) rfl ?_
    obtain ⟨⟨g0, g1⟩, h⟩ := h
    refine Fr.iald (c := 96) (N := 4096) (by decide +kernel : zi 193 40 = some (.iaload, 1)) (by decide +kernel) (by decide) g0 g1 ?_
    refine Fr.iconst (by decide +kernel : zi 193 41 = some (.iconst 1, 1)) (by decide) ?_
    refine Fr.isub (by decide +kernel : zi 193 42 = some (.isub, 1)) ?_
    obtain ⟨⟨g0, g1⟩, h⟩ := h
    refine Fr.iald (c := 93) (N := 1500) (by decide +kernel : zi 193 43 = some (.iaload, 1)) (by decide +kernel) (by decide) g0 g1 ?_
    refine Fr.ildn (by decide +kernel : zi 193 44 = some (.iload_n 2, 1)) rfl ?_
    refine Fr.if2 (q := 66) (by decide +kernel : zi 193 45 = some (.if_icmp .eq 21, 3)) (by decide +kernel) (fun g9 => ?_) (fun g9 => ?_)
    · have h := h.1 g9
      exact h
    · have h := h.2 g9
      refine Fr.ildn (by decide +kernel : zi 193 48 = some (.iload_n 3, 1)) rfl ?_
      refine Fr.sipush (by decide +kernel : zi 193 49 = some (.sipush 4095, 3)) (by decide) ?_
      refine Fr.if2 (q := 59) (by decide +kernel : zi 193 52 = some (.if_icmp .ne 7, 3)) (by decide +kernel) (fun g9 => ?_) (fun g9 => ?_)
      · have h := h.1 g9
        refine Fr.ildn (by decide +kernel : zi 193 59 = some (.iload_n 3, 1)) rfl ?_
        refine Fr.iconst (by decide +kernel : zi 193 60 = some (.iconst 1, 1)) (by decide) ?_
        refine Fr.iadd (by decide +kernel : zi 193 61 = some (.iadd, 1)) ?_
        exact h
      · have h := h.2 g9
        refine Fr.iconst (by decide +kernel : zi 193 55 = some (.iconst 0, 1)) (by decide) ?_
        refine Fr.goto (q := 62) (by decide +kernel : zi 193 56 = some (.goto 6, 3)) (by decide +kernel) ?_
        exact h
theorem f193_62 {xs : Nat → Int} {L : Nat} {d : Nat} {v1 : Int} {v2 : Int} {v3 : Int} {vs0 : Int} {s : Pl} {P : Pl → Prop} (h : Fr xs L T0 106 d 193 22 [some (rf 73), some (it v1), some (it v2), some (it vs0)] [] s (qv P)) : Fr xs L T0 106 d 193 62 [some (rf 73), some (it v1), some (it v2), some (it v3)] [it vs0] s (qv P) := by
  refine Fr.istn (lv2 := [some (rf 73), some (it v1), some (it v2), some (it vs0)]) (by decide +kernel : zi 193 62 = some (.istore_n 3, 1)) (Nat.le_of_ble_eq_true rfl) rfl ?_
  refine Fr.goto (q := 22) (by decide +kernel : zi 193 63 = some (.goto (-41), 3)) (by decide +kernel) ?_
  exact h
theorem f193_66 {xs : Nat → Int} {L : Nat} {d : Nat} {v1 : Int} {v2 : Int} {v3 : Int} {s : Pl} {P : Pl → Prop} (h : (0 ≤ v3 ∧ v3 < 4096) ∧ ((¬ s 96 v3 = 0 → (0 ≤ v3 ∧ v3 < 4096) ∧ (0 ≤ zw ((s 96 v3) - 1) ∧ zw ((s 96 v3) - 1) < 1500) ∧ ((s 94 (zw ((s 96 v3) - 1)) ≤ v1 → P s) ∧ (¬ (s 94 (zw ((s 96 v3) - 1)) ≤ v1) → (0 ≤ v3 ∧ v3 < 4096) ∧ (0 ≤ zw ((s 96 v3) - 1) ∧ zw ((s 96 v3) - 1) < 1500) ∧ P (zup s 94 (zw ((s 96 v3) - 1)) v1)))) ∧ (¬ (¬ s 96 v3 = 0) → (0 ≤ s 72 37 ∧ s 72 37 < 1500) ∧ (0 ≤ (zup s 93 (s 72 37) v2) 72 37 ∧ (zup s 93 (s 72 37) v2) 72 37 < 1500) ∧ (0 ≤ (zup (zup s 93 (s 72 37) v2) 94 ((zup s 93 (s 72 37) v2) 72 37) v1) 72 37 ∧ (zup (zup s 93 (s 72 37) v2) 94 ((zup s 93 (s 72 37) v2) 72 37) v1) 72 37 < 1500 ∧ ((0 : Int) = 0 ∨ (0 : Int) = 1)) ∧ (0 ≤ v3 ∧ v3 < 4096) ∧ P (zup (zup (zup (zup (zup s 93 (s 72 37) v2) 94 ((zup s 93 (s 72 37) v2) 72 37) v1) 95 ((zup (zup s 93 (s 72 37) v2) 94 ((zup s 93 (s 72 37) v2) 72 37) v1) 72 37) 0) 72 37 (zw (((zup (zup (zup s 93 (s 72 37) v2) 94 ((zup s 93 (s 72 37) v2) 72 37) v1) 95 ((zup (zup s 93 (s 72 37) v2) 94 ((zup s 93 (s 72 37) v2) 72 37) v1) 72 37) 0) 72 37) + 1))) 96 v3 ((zup (zup (zup (zup s 93 (s 72 37) v2) 94 ((zup s 93 (s 72 37) v2) 72 37) v1) 95 ((zup (zup s 93 (s 72 37) v2) 94 ((zup s 93 (s 72 37) v2) 72 37) v1) 72 37) 0) 72 37 (zw (((zup (zup (zup s 93 (s 72 37) v2) 94 ((zup s 93 (s 72 37) v2) 72 37) v1) 95 ((zup (zup s 93 (s 72 37) v2) 94 ((zup s 93 (s 72 37) v2) 72 37) v1) 72 37) 0) 72 37) + 1))) 72 37))))) : Fr xs L T0 106 d 193 66 [some (rf 73), some (it v1), some (it v2), some (it v3)] [] s (qv P) := by
  refine Fr.aldn (c := 73) (by decide +kernel : zi 193 66 = some (.aload_n 0, 1)) rfl ⟨by omega, by omega⟩ ?_
  refine Fr.gR (c := 72) (c2 := 97) (ci := 8) (k := 41) 41 (by decide +kernel : zi 193 67 = some (.getfield 85, 3)) (by decide +kernel) (by decide +kernel) (by decide +kernel) (by decide) rfl (fun q => q (72, 41, 97) (by decide +kernel)) ?_
  refine Fr.ildn (by decide +kernel : zi 193 70 = some (.iload_n 3, 1)) rfl ?_
  obtain ⟨⟨g0, g1⟩, h⟩ := h
  refine Fr.iald (c := 96) (N := 4096) (by decide +kernel : zi 193 71 = some (.iaload, 1)) (by decide +kernel) (by decide) g0 g1 ?_
  refine Fr.if0 (q := 128) (by decide +kernel : zi 193 72 = some (.ifCond .ne 56, 3)) (by decide +kernel) (fun g9 => ?_) (fun g9 => ?_)
  · have h := h.1 g9
    refine Fr.ildn (by decide +kernel : zi 193 128 = some (.iload_n 1, 1)) rfl ?_
    refine Fr.aldn (c := 73) (by decide +kernel : zi 193 129 = some (.aload_n 0, 1)) rfl ⟨by omega, by omega⟩ ?_
    refine Fr.gR (c := 72) (c2 := 95) (ci := 8) (k := 39) 39 (by decide +kernel : zi 193 130 = some (.getfield 78, 3)) (by decide +kernel) (by decide +kernel) (by decide +kernel) (by decide) rfl (fun q => q (72, 39, 95) (by decide +kernel)) ?_
    refine Fr.aldn (c := 73) (by decide +kernel : zi 193 133 = some (.aload_n 0, 1)) rfl ⟨by omega, by omega⟩ ?_
    refine Fr.gR (c := 72) (c2 := 97) (ci := 8) (k := 41) 41 (by decide +kernel : zi 193 134 = some (.getfield 85, 3)) (by decide +kernel) (by decide +kernel) (by decide +kernel) (by decide) rfl (fun q => q (72, 41, 97) (by decide +kernel)) ?_
    refine Fr.ildn (by decide +kernel : zi 193 137 = some (.iload_n 3, 1)) rfl ?_
    obtain ⟨⟨g0, g1⟩, h⟩ := h
    refine Fr.iald (c := 96) (N := 4096) (by decide +kernel : zi 193 138 = some (.iaload, 1)) (by decide +kernel) (by decide) g0 g1 ?_
    refine Fr.iconst (by decide +kernel : zi 193 139 = some (.iconst 1, 1)) (by decide) ?_
    refine Fr.isub (by decide +kernel : zi 193 140 = some (.isub, 1)) ?_
    obtain ⟨⟨g0, g1⟩, h⟩ := h
    refine Fr.iald (c := 94) (N := 1500) (by decide +kernel : zi 193 141 = some (.iaload, 1)) (by decide +kernel) (by decide) g0 g1 ?_
    refine Fr.if2 (q := 159) (by decide +kernel : zi 193 142 = some (.if_icmp .ge 17, 3)) (by decide +kernel) (fun g9 => ?_) (fun g9 => ?_)
    · have h := h.1 g9
      exact Fr.retV (by decide +kernel : zi 193 159 = some (.return_, 1)) (by decide +kernel) h
    · have h := h.2 g9
      refine Fr.aldn (c := 73) (by decide +kernel : zi 193 145 = some (.aload_n 0, 1)) rfl ⟨by omega, by omega⟩ ?_
      refine Fr.gR (c := 72) (c2 := 95) (ci := 8) (k := 39) 39 (by decide +kernel : zi 193 146 = some (.getfield 78, 3)) (by decide +kernel) (by decide +kernel) (by decide +kernel) (by decide) rfl (fun q => q (72, 39, 95) (by decide +kernel)) ?_
      refine Fr.aldn (c := 73) (by decide +kernel : zi 193 149 = some (.aload_n 0, 1)) rfl ⟨by omega, by omega⟩ ?_
      refine Fr.gR (c := 72) (c2 := 97) (ci := 8) (k := 41) 41 (by decide +kernel : zi 193 150 = some (.getfield 85, 3)) (by decide +kernel) (by decide +kernel) (by decide +kernel) (by decide) rfl (fun q => q (72, 41, 97) (by decide +kernel)) ?_
      refine Fr.ildn (by decide +kernel : zi 193 153 = some (.iload_n 3, 1)) rfl ?_
      obtain ⟨⟨g0, g1⟩, h⟩ := h
      refine Fr.iald (c := 96) (N := 4096) (by decide +kernel : zi 193 154 = some (.iaload, 1)) (by decide +kernel) (by decide) g0 g1 ?_
      refine Fr.iconst (by decide +kernel : zi 193 155 = some (.iconst 1, 1)) (by decide) ?_
      refine Fr.isub (by decide +kernel : zi 193 156 = some (.isub, 1)) ?_
      refine Fr.ildn (by decide +kernel : zi 193 157 = some (.iload_n 1, 1)) rfl ?_
      obtain ⟨⟨g0, g1⟩, h⟩ := h
      refine Fr.iast (c := 94) (N := 1500) (by decide +kernel : zi 193 158 = some (.iastore, 1)) (by decide +kernel) (by decide) g0 g1 ?_
      exact Fr.retV (by decide +kernel : zi 193 159 = some (.return_, 1)) (by decide +kernel) h
  · have h := h.2 g9
    refine Fr.aldn (c := 73) (by decide +kernel : zi 193 75 = some (.aload_n 0, 1)) rfl ⟨by omega, by omega⟩ ?_
    refine Fr.gR (c := 72) (c2 := 94) (ci := 8) (k := 38) 38 (by decide +kernel : zi 193 76 = some (.getfield 75, 3)) (by decide +kernel) (by decide +kernel) (by decide +kernel) (by decide) rfl (fun q => q (72, 38, 94) (by decide +kernel)) ?_
    refine Fr.aldn (c := 73) (by decide +kernel : zi 193 79 = some (.aload_n 0, 1)) rfl ⟨by omega, by omega⟩ ?_
    refine Fr.gI (c := 72) (ci := 8) (k := 37) (t := 0) 37 (by decide +kernel : zi 193 80 = some (.getfield 299, 3)) (by decide +kernel) (by decide +kernel) (by decide +kernel) (by decide) rfl ?_
    refine Fr.ildn (by decide +kernel : zi 193 83 = some (.iload_n 2, 1)) rfl ?_
    obtain ⟨⟨g0, g1⟩, h⟩ := h
    refine Fr.iast (c := 93) (N := 1500) (by decide +kernel : zi 193 84 = some (.iastore, 1)) (by decide +kernel) (by decide) g0 g1 ?_
    refine Fr.aldn (c := 73) (by decide +kernel : zi 193 85 = some (.aload_n 0, 1)) rfl ⟨by omega, by omega⟩ ?_
    refine Fr.gR (c := 72) (c2 := 95) (ci := 8) (k := 39) 39 (by decide +kernel : zi 193 86 = some (.getfield 78, 3)) (by decide +kernel) (by decide +kernel) (by decide +kernel) (by decide) rfl (fun q => q (72, 39, 95) (by decide +kernel)) ?_
    refine Fr.aldn (c := 73) (by decide +kernel : zi 193 89 = some (.aload_n 0, 1)) rfl ⟨by omega, by omega⟩ ?_
    refine Fr.gI (c := 72) (ci := 8) (k := 37) (t := 0) 37 (by decide +kernel : zi 193 90 = some (.getfield 299, 3)) (by decide +kernel) (by decide +kernel) (by decide +kernel) (by decide) rfl ?_
    refine Fr.ildn (by decide +kernel : zi 193 93 = some (.iload_n 1, 1)) rfl ?_
    obtain ⟨⟨g0, g1⟩, h⟩ := h
    refine Fr.iast (c := 94) (N := 1500) (by decide +kernel : zi 193 94 = some (.iastore, 1)) (by decide +kernel) (by decide) g0 g1 ?_
    refine Fr.aldn (c := 73) (by decide +kernel : zi 193 95 = some (.aload_n 0, 1)) rfl ⟨by omega, by omega⟩ ?_
    refine Fr.gR (c := 72) (c2 := 96) (ci := 8) (k := 40) 40 (by decide +kernel : zi 193 96 = some (.getfield 81, 3)) (by decide +kernel) (by decide +kernel) (by decide +kernel) (by decide) rfl (fun q => q (72, 40, 96) (by decide +kernel)) ?_
    refine Fr.aldn (c := 73) (by decide +kernel : zi 193 99 = some (.aload_n 0, 1)) rfl ⟨by omega, by omega⟩ ?_
    refine Fr.gI (c := 72) (ci := 8) (k := 37) (t := 0) 37 (by decide +kernel : zi 193 100 = some (.getfield 299, 3)) (by decide +kernel) (by decide +kernel) (by decide +kernel) (by decide) rfl ?_
    refine Fr.iconst (by decide +kernel : zi 193 103 = some (.iconst 0, 1)) (by decide) ?_
    obtain ⟨⟨g0, g1, g2⟩, h⟩ := h
    refine Fr.zast (c := 95) (N := 1500) (by decide +kernel : zi 193 104 = some (.bastore, 1)) (by decide +kernel) (by decide) g0 g1 g2 ?_
    refine Fr.aldn (c := 73) (by decide +kernel : zi 193 105 = some (.aload_n 0, 1)) rfl ⟨by omega, by omega⟩ ?_
    refine Fr.dup (by decide +kernel : zi 193 106 = some (.dup, 1)) rfl ?_
    refine Fr.gI (c := 72) (ci := 8) (k := 37) (t := 0) 37 (by decide +kernel : zi 193 107 = some (.getfield 299, 3)) (by decide +kernel) (by decide +kernel) (by decide +kernel) (by decide) rfl ?_
    refine Fr.iconst (by decide +kernel : zi 193 110 = some (.iconst 1, 1)) (by decide) ?_
    refine Fr.iadd (by decide +kernel : zi 193 111 = some (.iadd, 1)) ?_
    refine Fr.pI (c := 72) (ci := 8) (k := 37) 37 (by decide +kernel : zi 193 112 = some (.putfield 299, 3)) (by decide +kernel) (by decide +kernel) (by decide +kernel) (by decide) rfl ?_
    refine Fr.aldn (c := 73) (by decide +kernel : zi 193 115 = some (.aload_n 0, 1)) rfl ⟨by omega, by omega⟩ ?_
    refine Fr.gR (c := 72) (c2 := 97) (ci := 8) (k := 41) 41 (by decide +kernel : zi 193 116 = some (.getfield 85, 3)) (by decide +kernel) (by decide +kernel) (by decide +kernel) (by decide) rfl (fun q => q (72, 41, 97) (by decide +kernel)) ?_
    refine Fr.ildn (by decide +kernel : zi 193 119 = some (.iload_n 3, 1)) rfl ?_
    refine Fr.aldn (c := 73) (by decide +kernel : zi 193 120 = some (.aload_n 0, 1)) rfl ⟨by omega, by omega⟩ ?_
    refine Fr.gI (c := 72) (ci := 8) (k := 37) (t := 0) 37 (by decide +kernel : zi 193 121 = some (.getfield 299, 3)) (by decide +kernel) (by decide +kernel) (by decide +kernel) (by decide) rfl ?_
    obtain ⟨⟨g0, g1⟩, h⟩ := h
    refine Fr.iast (c := 96) (N := 4096) (by decide +kernel : zi 193 124 = some (.iastore, 1)) (by decide +kernel) (by decide) g0 g1 ?_
    refine Fr.goto (q := 159) (by decide +kernel : zi 193 125 = some (.goto 34, 3)) (by decide +kernel) ?_
    exact Fr.retV (by decide +kernel : zi 193 159 = some (.return_, 1)) (by decide +kernel) h
-- 194 X8_goOn
theorem f194_0 {xs : Nat → Int} {L : Nat} {d : Nat} {v1 : Int} {v2 : Int} {s : Pl} {P : Pl → Prop} (h : (0 ≤ v1 ∧ v1 < 1500) ∧ Ev xs L T0 106 d 192 [rf 73, it (s 93 v1)] s (qv fun s1 => Fr xs L T0 106 d 194 18 [some (rf 73), some (it v1), some (it v2), some (it (s1 72 2)), some (it 0), none] [] s1 (qv P))) : Fr xs L T0 106 d 194 0 [some (rf 73), some (it v1), some (it v2), none, none, none] [] s (qv P) := by
  refine Fr.aldn (c := 73) (by decide +kernel : zi 194 0 = some (.aload_n 0, 1)) rfl ⟨by omega, by omega⟩ ?_
  refine Fr.aldn (c := 73) (by decide +kernel : zi 194 1 = some (.aload_n 0, 1)) rfl ⟨by omega, by omega⟩ ?_
  refine Fr.gR (c := 72) (c2 := 94) (ci := 8) (k := 38) 38 (by decide +kernel : zi 194 2 = some (.getfield 75, 3)) (by decide +kernel) (by decide +kernel) (by decide +kernel) (by decide) rfl (fun q => q (72, 38, 94) (by decide +kernel)) ?_
  refine Fr.ildn (by decide +kernel : zi 194 5 = some (.iload_n 1, 1)) rfl ?_
  obtain ⟨⟨g0, g1⟩, h⟩ := h
  refine Fr.iald (c := 93) (N := 1500) (by decide +kernel : zi 194 6 = some (.iaload, 1)) (by decide +kernel) (by decide) g0 g1 ?_
  refine Fr.callV (y2 := 192) (na := 2) (as := [rf 73, it (s 93 v1)]) (rest := []) (by decide +kernel : zi 194 7 = some (.invokevirtual 302, 3)) rfl (by decide +kernel) (by decide +kernel) rfl rfl (zok_V rfl (by decide) (by decide +kernel) (by decide +kernel) (zrecv_c (c := 72) (by decide) (by decide +kernel)) rfl (Nat.le_of_ble_eq_true rfl)) h (fun s1 h => ?_)
  refine Fr.aldn (c := 73) (by decide +kernel : zi 194 10 = some (.aload_n 0, 1)) rfl ⟨by omega, by omega⟩ ?_
  refine Fr.gI (c := 72) (ci := 8) (k := 2) (t := 0) 2 (by decide +kernel : zi 194 11 = some (.getfield 129, 3)) (by decide +kernel) (by decide +kernel) (by decide +kernel) (by decide) rfl ?_
  refine Fr.istn (lv2 := [some (rf 73), some (it v1), some (it v2), some (it (s1 72 2)), none, none]) (by decide +kernel : zi 194 14 = some (.istore_n 3, 1)) (Nat.le_of_ble_eq_true rfl) rfl ?_
  refine Fr.iconst (by decide +kernel : zi 194 15 = some (.iconst 0, 1)) (by decide) ?_
  refine Fr.ist (lv2 := [some (rf 73), some (it v1), some (it v2), some (it (s1 72 2)), some (it 0), none]) (by decide +kernel : zi 194 16 = some (.istore 4, 2)) (Nat.le_of_ble_eq_true rfl) rfl ?_
  exact h
theorem e194 {xs : Nat → Int} {L : Nat} {d : Nat} {v1 : Int} {v2 : Int} {s : Pl} {Q : Option AV → Pl → Prop} (hd : 1 ≤ d) (k : Fr xs L T0 106 (d - 1) 194 0 [some (rf 73), some (it v1), some (it v2), none, none, none] [] s Q) : Ev xs L T0 106 d 194 [rf 73, it v1, it v2] s Q := Ev.of (by decide) _ rfl hd k
theorem f194_18 {xs : Nat → Int} {L : Nat} {d : Nat} {v1 : Int} {v2 : Int} {v3 : Int} {v4 : Int} {w5 : Option AV} {s : Pl} {P : Pl → Prop} (h : ((4 ≤ v4 → Fr xs L T0 106 d 194 97 [some (rf 73), some (it v1), some (it v2), some (it v3), some (it 0), w5] [] (zup s 72 2 v3) (qv P)) ∧ (¬ (4 ≤ v4) → ((¬ v4 = v3 → ((¬ v2 = 0 → ((¬ v2 = 2 → Fr xs L T0 106 d 194 62 [some (rf 73), some (it v1), some (it v2), some (it v3), some (it v4), w5] [it 0] (zup s 72 2 v3) (qv P)) ∧ (¬ (¬ v2 = 2) → Fr xs L T0 106 d 194 62 [some (rf 73), some (it v1), some (it v2), some (it v3), some (it v4), w5] [it 1] (zup s 72 2 v3) (qv P)))) ∧ (¬ (¬ v2 = 0) → Ev xs L T0 106 d 165 [rf 73, it v3, it v4] (zup s 72 2 v3) (qi fun r2 s1 => Fr xs L T0 106 d 194 62 [some (rf 73), some (it v1), some (it v2), some (it v3), some (it v4), w5] [it r2] s1 (qv P))))) ∧ (¬ (¬ v4 = v3) → Fr xs L T0 106 d 194 83 [some (rf 73), some (it v1), some (it v2), some (it v3), some (it v4), w5] [] (zup s 72 2 v3) (qv P)))))) : Fr xs L T0 106 d 194 18 [some (rf 73), some (it v1), some (it v2), some (it v3), some (it v4), w5] [] s (qv P) := by
  refine Fr.ild (by decide +kernel : zi 194 18 = some (.iload 4, 2)) rfl ?_
  refine Fr.iconst (by decide +kernel : zi 194 20 = some (.iconst 4, 1)) (by decide) ?_
  refine Fr.if2 (q := 89) (by decide +kernel : zi 194 21 = some (.if_icmp .ge 68, 3)) (by decide +kernel) (fun g9 => ?_) (fun g9 => ?_)
  · have h := h.1 g9
    refine Fr.aldn (c := 73) (by decide +kernel : zi 194 89 = some (.aload_n 0, 1)) rfl ⟨by omega, by omega⟩ ?_
    refine Fr.ildn (by decide +kernel : zi 194 90 = some (.iload_n 3, 1)) rfl ?_
    refine Fr.pI (c := 72) (ci := 8) (k := 2) 2 (by decide +kernel : zi 194 91 = some (.putfield 129, 3)) (by decide +kernel) (by decide +kernel) (by decide +kernel) (by decide) rfl ?_
    refine Fr.iconst (by decide +kernel : zi 194 94 = some (.iconst 0, 1)) (by decide) ?_
    refine Fr.ist (lv2 := [some (rf 73), some (it v1), some (it v2), some (it v3), some (it 0), w5]) (by decide +kernel : zi 194 95 = some (.istore 4, 2)) (Nat.le_of_ble_eq_true rfl) rfl ?_
    exact h
  · have h := h.2 g9
    refine Fr.aldn (c := 73) (by decide +kernel : zi 194 24 = some (.aload_n 0, 1)) rfl ⟨by omega, by omega⟩ ?_
    refine Fr.ildn (by decide +kernel : zi 194 25 = some (.iload_n 3, 1)) rfl ?_
    refine Fr.pI (c := 72) (ci := 8) (k := 2) 2 (by decide +kernel : zi 194 26 = some (.putfield 129, 3)) (by decide +kernel) (by decide +kernel) (by decide +kernel) (by decide) rfl ?_
    refine Fr.ild (by decide +kernel : zi 194 29 = some (.iload 4, 2)) rfl ?_
    refine Fr.ildn (by decide +kernel : zi 194 31 = some (.iload_n 3, 1)) rfl ?_
    refine Fr.if2 (q := 38) (by decide +kernel : zi 194 32 = some (.if_icmp .ne 6, 3)) (by decide +kernel) (fun g9 => ?_) (fun g9 => ?_)
    · have h := h.1 g9
      refine Fr.ildn (by decide +kernel : zi 194 38 = some (.iload_n 2, 1)) rfl ?_
      refine Fr.if0 (q := 52) (by decide +kernel : zi 194 39 = some (.ifCond .ne 13, 3)) (by decide +kernel) (fun g9 => ?_) (fun g9 => ?_)
      · have h := h.1 g9
        refine Fr.ildn (by decide +kernel : zi 194 52 = some (.iload_n 2, 1)) rfl ?_
        refine Fr.iconst (by decide +kernel : zi 194 53 = some (.iconst 2, 1)) (by decide) ?_
        refine Fr.if2 (q := 61) (by decide +kernel : zi 194 54 = some (.if_icmp .ne 7, 3)) (by decide +kernel) (fun g9 => ?_) (fun g9 => ?_)
        · have h := h.1 g9
          refine Fr.iconst (by decide +kernel : zi 194 61 = some (.iconst 0, 1)) (by decide) ?_
          exact h
        · have h := h.2 g9
          refine Fr.iconst (by decide +kernel : zi 194 57 = some (.iconst 1, 1)) (by decide) ?_
          refine Fr.goto (q := 62) (by decide +kernel : zi 194 58 = some (.goto 4, 3)) (by decide +kernel) ?_
          exact h
      · have h := h.2 g9
        refine Fr.aldn (c := 73) (by decide +kernel : zi 194 42 = some (.aload_n 0, 1)) rfl ⟨by omega, by omega⟩ ?_
        refine Fr.ildn (by decide +kernel : zi 194 43 = some (.iload_n 3, 1)) rfl ?_
        refine Fr.ild (by decide +kernel : zi 194 44 = some (.iload 4, 2)) rfl ?_
        refine Fr.callI (y2 := 165) (na := 3) (as := [rf 73, it v3, it v4]) (rest := []) (by decide +kernel : zi 194 46 = some (.invokevirtual 243, 3)) rfl (by decide +kernel) (by decide +kernel) rfl rfl (zok_V rfl (by decide) (by decide +kernel) (by decide +kernel) (zrecv_c (c := 72) (by decide) (by decide +kernel)) rfl (Nat.le_of_ble_eq_true rfl)) h (fun r2 s1 h => ?_)
        refine Fr.goto (q := 62) (by decide +kernel : zi 194 49 = some (.goto 13, 3)) (by decide +kernel) ?_
        exact h
    · have h := h.2 g9
      refine Fr.goto (q := 83) (by decide +kernel : zi 194 35 = some (.goto 48, 3)) (by decide +kernel) ?_
      exact h
theorem f194_62 {xs : Nat → Int} {L : Nat} {d : Nat} {v1 : Int} {v2 : Int} {v3 : Int} {v4 : Int} {w5 : Option AV} {vs0 : Int} {s : Pl} {P : Pl → Prop} (h : (0 ≤ v1 ∧ v1 < 1500) ∧ Ev xs L T0 106 d 193 [rf 73, it (zw (((zup s 72 2 v4) 94 v1) + vs0))] (zup s 72 2 v4) (qv fun s1 => Fr xs L T0 106 d 194 83 [some (rf 73), some (it v1), some (it v2), some (it v3), some (it v4), some (it vs0)] [] s1 (qv P))) : Fr xs L T0 106 d 194 62 [some (rf 73), some (it v1), some (it v2), some (it v3), some (it v4), w5] [it vs0] s (qv P) := by
  refine Fr.ist (lv2 := [some (rf 73), some (it v1), some (it v2), some (it v3), some (it v4), some (it vs0)]) (by decide +kernel : zi 194 62 = some (.istore 5, 2)) (Nat.le_of_ble_eq_true rfl) rfl ?_
  refine Fr.aldn (c := 73) (by decide +kernel : zi 194 64 = some (.aload_n 0, 1)) rfl ⟨by omega, by omega⟩ ?_
  refine Fr.ild (by decide +kernel : zi 194 65 = some (.iload 4, 2)) rfl ?_
  refine Fr.pI (c := 72) (ci := 8) (k := 2) 2 (by decide +kernel : zi 194 67 = some (.putfield 129, 3)) (by decide +kernel) (by decide +kernel) (by decide +kernel) (by decide) rfl ?_
  refine Fr.aldn (c := 73) (by decide +kernel : zi 194 70 = some (.aload_n 0, 1)) rfl ⟨by omega, by omega⟩ ?_
  refine Fr.aldn (c := 73) (by decide +kernel : zi 194 71 = some (.aload_n 0, 1)) rfl ⟨by omega, by omega⟩ ?_
  refine Fr.gR (c := 72) (c2 := 95) (ci := 8) (k := 39) 39 (by decide +kernel : zi 194 72 = some (.getfield 78, 3)) (by decide +kernel) (by decide +kernel) (by decide +kernel) (by decide) rfl (fun q => q (72, 39, 95) (by decide +kernel)) ?_
  refine Fr.ildn (by decide +kernel : zi 194 75 = some (.iload_n 1, 1)) rfl ?_
  obtain ⟨⟨g0, g1⟩, h⟩ := h
  refine Fr.iald (c := 94) (N := 1500) (by decide +kernel : zi 194 76 = some (.iaload, 1)) (by decide +kernel) (by decide) g0 g1 ?_
  refine Fr.ild (by decide +kernel : zi 194 77 = some (.iload 5, 2)) rfl ?_
  refine Fr.iadd (by decide +kernel : zi 194 79 = some (.iadd, 1)) ?_
  refine Fr.callV (y2 := 193) (na := 2) (as := [rf 73, it (zw (((zup s 72 2 v4) 94 v1) + vs0))]) (rest := []) (by decide +kernel : zi 194 80 = some (.invokevirtual 305, 3)) rfl (by decide +kernel) (by decide +kernel) rfl rfl (zok_V rfl (by decide) (by decide +kernel) (by decide +kernel) (zrecv_c (c := 72) (by decide) (by decide +kernel)) rfl (Nat.le_of_ble_eq_true rfl)) h (fun s1 h => ?_)
  exact h
theorem f194_83 {xs : Nat → Int} {L : Nat} {d : Nat} {v1 : Int} {v2 : Int} {v3 : Int} {v4 : Int} {w5 : Option AV} {s : Pl} {P : Pl → Prop} (h : Fr xs L T0 106 d 194 18 [some (rf 73), some (it v1), some (it v2), some (it v3), some (it (zw (v4 + 1))), w5] [] s (qv P)) : Fr xs L T0 106 d 194 83 [some (rf 73), some (it v1), some (it v2), some (it v3), some (it v4), w5] [] s (qv P) := by
  refine Fr.iinc (lv2 := [some (rf 73), some (it v1), some (it v2), some (it v3), some (it (zw (v4 + 1))), w5]) (by decide +kernel : zi 194 83 = some (.iinc 4 1, 3)) (Nat.le_of_ble_eq_true rfl) rfl rfl ?_
  refine Fr.goto (q := 18) (by decide +kernel : zi 194 86 = some (.goto (-68), 3)) (by decide +kernel) ?_
  exact h
theorem f194_97 {xs : Nat → Int} {L : Nat} {d : Nat} {v1 : Int} {v2 : Int} {v3 : Int} {v4 : Int} {w5 : Option AV} {s : Pl} {P : Pl → Prop} (h : ((s 72 3 ≤ v4 → P s) ∧ (¬ (s 72 3 ≤ v4) → Fr xs L T0 106 d 194 109 [some (rf 73), some (it v1), some (it v2), some (it v3), some (it v4), some (it 0)] [] s (qv P)))) : Fr xs L T0 106 d 194 97 [some (rf 73), some (it v1), some (it v2), some (it v3), some (it v4), w5] [] s (qv P) := by
  refine Fr.ild (by decide +kernel : zi 194 97 = some (.iload 4, 2)) rfl ?_
  refine Fr.aldn (c := 73) (by decide +kernel : zi 194 99 = some (.aload_n 0, 1)) rfl ⟨by omega, by omega⟩ ?_
  refine Fr.gI (c := 72) (ci := 8) (k := 3) (t := 0) 3 (by decide +kernel : zi 194 100 = some (.getfield 122, 3)) (by decide +kernel) (by decide +kernel) (by decide +kernel) (by decide) rfl ?_
  refine Fr.if2 (q := 181) (by decide +kernel : zi 194 103 = some (.if_icmp .ge 78, 3)) (by decide +kernel) (fun g9 => ?_) (fun g9 => ?_)
  · have h := h.1 g9
    exact Fr.retV (by decide +kernel : zi 194 181 = some (.return_, 1)) (by decide +kernel) h
  · have h := h.2 g9
    refine Fr.iconst (by decide +kernel : zi 194 106 = some (.iconst 0, 1)) (by decide) ?_
    refine Fr.ist (lv2 := [some (rf 73), some (it v1), some (it v2), some (it v3), some (it v4), some (it 0)]) (by decide +kernel : zi 194 107 = some (.istore 5, 2)) (Nat.le_of_ble_eq_true rfl) rfl ?_
    exact h
theorem f194_109 {xs : Nat → Int} {L : Nat} {d : Nat} {v1 : Int} {v2 : Int} {v3 : Int} {v4 : Int} {v5 : Int} {s : Pl} {P : Pl → Prop} (h : ((s 72 3 ≤ v5 → Fr xs L T0 106 d 194 97 [some (rf 73), some (it v1), some (it v2), some (it v3), some (it (zw (v4 + 1))), some (it v5)] [] s (qv P)) ∧ (¬ (s 72 3 ≤ v5) → Ev xs L T0 106 d 176 [rf 73, it v4, it v5] s (qi fun r2 s1 => ((¬ r2 = 0 → Ev xs L T0 106 d 177 [rf 73, it v4, it v5] s1 (qv fun s3 => (0 ≤ v1 ∧ v1 < 1500) ∧ ((¬ v2 = 1 → Fr xs L T0 106 d 194 157 [some (rf 73), some (it v1), some (it v2), some (it v3), some (it v4), some (it v5)] [it 0, it (s3 94 v1), rf 73] s3 (qv P)) ∧ (¬ (¬ v2 = 1) → Fr xs L T0 106 d 194 157 [some (rf 73), some (it v1), some (it v2), some (it v3), some (it v4), some (it v5)] [it 1, it (s3 94 v1), rf 73] s3 (qv P))))) ∧ (¬ (¬ r2 = 0) → Fr xs L T0 106 d 194 169 [some (rf 73), some (it v1), some (it v2), some (it v3), some (it v4), some (it v5)] [] s1 (qv P))))))) : Fr xs L T0 106 d 194 109 [some (rf 73), some (it v1), some (it v2), some (it v3), some (it v4), some (it v5)] [] s (qv P) := by
  refine Fr.ild (by decide +kernel : zi 194 109 = some (.iload 5, 2)) rfl ?_
  refine Fr.aldn (c := 73) (by decide +kernel : zi 194 111 = some (.aload_n 0, 1)) rfl ⟨by omega, by omega⟩ ?_
  refine Fr.gI (c := 72) (ci := 8) (k := 3) (t := 0) 3 (by decide +kernel : zi 194 112 = some (.getfield 122, 3)) (by decide +kernel) (by decide +kernel) (by decide +kernel) (by decide) rfl ?_
  refine Fr.if2 (q := 175) (by decide +kernel : zi 194 115 = some (.if_icmp .ge 60, 3)) (by decide +kernel) (fun g9 => ?_) (fun g9 => ?_)
  · have h := h.1 g9
    refine Fr.iinc (lv2 := [some (rf 73), some (it v1), some (it v2), some (it v3), some (it (zw (v4 + 1))), some (it v5)]) (by decide +kernel : zi 194 175 = some (.iinc 4 1, 3)) (Nat.le_of_ble_eq_true rfl) rfl rfl ?_
    refine Fr.goto (q := 97) (by decide +kernel : zi 194 178 = some (.goto (-81), 3)) (by decide +kernel) ?_
    exact h
  · have h := h.2 g9
    refine Fr.aldn (c := 73) (by decide +kernel : zi 194 118 = some (.aload_n 0, 1)) rfl ⟨by omega, by omega⟩ ?_
    refine Fr.ild (by decide +kernel : zi 194 119 = some (.iload 4, 2)) rfl ?_
    refine Fr.ild (by decide +kernel : zi 194 121 = some (.iload 5, 2)) rfl ?_
    refine Fr.callI (y2 := 176) (na := 3) (as := [rf 73, it v4, it v5]) (rest := []) (by decide +kernel : zi 194 123 = some (.invokevirtual 266, 3)) rfl (by decide +kernel) (by decide +kernel) rfl rfl (zok_V rfl (by decide) (by decide +kernel) (by decide +kernel) (zrecv_c (c := 72) (by decide) (by decide +kernel)) rfl (Nat.le_of_ble_eq_true rfl)) h (fun r2 s1 h => ?_)
    refine Fr.if0 (q := 132) (by decide +kernel : zi 194 126 = some (.ifCond .ne 6, 3)) (by decide +kernel) (fun g9 => ?_) (fun g9 => ?_)
    · have h := h.1 g9
      refine Fr.aldn (c := 73) (by decide +kernel : zi 194 132 = some (.aload_n 0, 1)) rfl ⟨by omega, by omega⟩ ?_
      refine Fr.ild (by decide +kernel : zi 194 133 = some (.iload 4, 2)) rfl ?_
      refine Fr.ild (by decide +kernel : zi 194 135 = some (.iload 5, 2)) rfl ?_
      refine Fr.callV (y2 := 177) (na := 3) (as := [rf 73, it v4, it v5]) (rest := []) (by decide +kernel : zi 194 137 = some (.invokevirtual 260, 3)) rfl (by decide +kernel) (by decide +kernel) rfl rfl (zok_V rfl (by decide) (by decide +kernel) (by decide +kernel) (zrecv_c (c := 72) (by decide) (by decide +kernel)) rfl (Nat.le_of_ble_eq_true rfl)) h (fun s3 h => ?_)
      refine Fr.aldn (c := 73) (by decide +kernel : zi 194 140 = some (.aload_n 0, 1)) rfl ⟨by omega, by omega⟩ ?_
      refine Fr.aldn (c := 73) (by decide +kernel : zi 194 141 = some (.aload_n 0, 1)) rfl ⟨by omega, by omega⟩ ?_
      refine Fr.gR (c := 72) (c2 := 95) (ci := 8) (k := 39) 39 (by decide +kernel : zi 194 142 = some (.getfield 78, 3)) (by decide +kernel) (by decide +kernel) (by decide +kernel) (by decide) rfl (fun q => q (72, 39, 95) (by decide +kernel)) ?_
      refine Fr.ildn (by decide +kernel : zi 194 145 = some (.iload_n 1, 1)) rfl ?_
      obtain ⟨⟨g0, g1⟩, h⟩ := h
      refine Fr.iald (c := 94) (N := 1500) (by decide +kernel : zi 194 146 = some (.iaload, 1)) (by decide +kernel) (by decide) g0 g1 ?_
      refine Fr.ildn (by decide +kernel : zi 194 147 = some (.iload_n 2, 1)) rfl ?_
      refine Fr.iconst (by decide +kernel : zi 194 148 = some (.iconst 1, 1)) (by decide) ?_
      refine Fr.if2 (q := 156) (by decide +kernel : zi 194 149 = some (.if_icmp .ne 7, 3)) (by decide +kernel) (fun g9 => ?_) (fun g9 => ?_)
      · have h := h.1 g9
        refine Fr.iconst (by decide +kernel : zi 194 156 = some (.iconst 0, 1)) (by decide) ?_
        exact h
      · have h := h.2 g9
        refine Fr.iconst (by decide +kernel : zi 194 152 = some (.iconst 1, 1)) (by decide) ?_
        refine Fr.goto (q := 157) (by decide +kernel : zi 194 153 = some (.goto 4, 3)) (by decide +kernel) ?_
        exact h
    · have h := h.2 g9
      refine Fr.goto (q := 169) (by decide +kernel : zi 194 129 = some (.goto 40, 3)) (by decide +kernel) ?_
      exact h
theorem f194_157 {xs : Nat → Int} {L : Nat} {d : Nat} {v1 : Int} {v2 : Int} {v3 : Int} {v4 : Int} {v5 : Int} {vs0 : Int} {vs1 : Int} {s : Pl} {P : Pl → Prop} (h : Ev xs L T0 106 d 193 [rf 73, it (zw (vs1 + vs0))] s (qv fun s1 => Ev xs L T0 106 d 177 [rf 73, it v5, it v4] s1 (qv fun s2 => Fr xs L T0 106 d 194 169 [some (rf 73), some (it v1), some (it v2), some (it v3), some (it v4), some (it v5)] [] s2 (qv P)))) : Fr xs L T0 106 d 194 157 [some (rf 73), some (it v1), some (it v2), some (it v3), some (it v4), some (it v5)] [it vs0, it vs1, rf 73] s (qv P) := by
  refine Fr.iadd (by decide +kernel : zi 194 157 = some (.iadd, 1)) ?_
  refine Fr.callV (y2 := 193) (na := 2) (as := [rf 73, it (zw (vs1 + vs0))]) (rest := []) (by decide +kernel : zi 194 158 = some (.invokevirtual 305, 3)) rfl (by decide +kernel) (by decide +kernel) rfl rfl (zok_V rfl (by decide) (by decide +kernel) (by decide +kernel) (zrecv_c (c := 72) (by decide) (by decide +kernel)) rfl (Nat.le_of_ble_eq_true rfl)) h (fun s1 h => ?_)
  refine Fr.aldn (c := 73) (by decide +kernel : zi 194 161 = some (.aload_n 0, 1)) rfl ⟨by omega, by omega⟩ ?_
  refine Fr.ild (by decide +kernel : zi 194 162 = some (.iload 5, 2)) rfl ?_
  refine Fr.ild (by decide +kernel : zi 194 164 = some (.iload 4, 2)) rfl ?_
  refine Fr.callV (y2 := 177) (na := 3) (as := [rf 73, it v5, it v4]) (rest := []) (by decide +kernel : zi 194 166 = some (.invokevirtual 260, 3)) rfl (by decide +kernel) (by decide +kernel) rfl rfl (zok_V rfl (by decide) (by decide +kernel) (by decide +kernel) (zrecv_c (c := 72) (by decide) (by decide +kernel)) rfl (Nat.le_of_ble_eq_true rfl)) h (fun s2 h => ?_)
  exact h
theorem f194_169 {xs : Nat → Int} {L : Nat} {d : Nat} {v1 : Int} {v2 : Int} {v3 : Int} {v4 : Int} {v5 : Int} {s : Pl} {P : Pl → Prop} (h : Fr xs L T0 106 d 194 109 [some (rf 73), some (it v1), some (it v2), some (it v3), some (it v4), some (it (zw (v5 + 1)))] [] s (qv P)) : Fr xs L T0 106 d 194 169 [some (rf 73), some (it v1), some (it v2), some (it v3), some (it v4), some (it v5)] [] s (qv P) := by
  refine Fr.iinc (lv2 := [some (rf 73), some (it v1), some (it v2), some (it v3), some (it v4), some (it (zw (v5 + 1)))]) (by decide +kernel : zi 194 169 = some (.iinc 5 1, 3)) (Nat.le_of_ble_eq_true rfl) rfl rfl ?_
  refine Fr.goto (q := 109) (by decide +kernel : zi 194 172 = some (.goto (-63), 3)) (by decide +kernel) ?_
  exact h
-- 195 X8_findStates
theorem f195_0 {xs : Nat → Int} {L : Nat} {d : Nat} {v1 : Int} {s : Pl} {P : Pl → Prop} (h : Fr xs L T0 106 d 195 2 [some (rf 73), some (it v1), some (it 0), none, none] [] s (qv P)) : Fr xs L T0 106 d 195 0 [some (rf 73), some (it v1), none, none, none] [] s (qv P) := by
  refine Fr.iconst (by decide +kernel : zi 195 0 = some (.iconst 0, 1)) (by decide) ?_
  refine Fr.istn (lv2 := [some (rf 73), some (it v1), some (it 0), none, none]) (by decide +kernel : zi 195 1 = some (.istore_n 2, 1)) (Nat.le_of_ble_eq_true rfl) rfl ?_
  exact h
theorem e195 {xs : Nat → Int} {L : Nat} {d : Nat} {v1 : Int} {s : Pl} {Q : Option AV → Pl → Prop} (hd : 1 ≤ d) (k : Fr xs L T0 106 (d - 1) 195 0 [some (rf 73), some (it v1), none, none, none] [] s Q) : Ev xs L T0 106 d 195 [rf 73, it v1] s Q := Ev.of (by decide) _ rfl hd k
theorem f195_2 {xs : Nat → Int} {L : Nat} {d : Nat} {v1 : Int} {v2 : Int} {s : Pl} {P : Pl → Prop} (h : ((s 72 3 ≤ v2 → Fr xs L T0 106 d 195 40 [some (rf 73), some (it v1), some (it (s 72 2)), some (it 0), none] [] (zup s 72 37 0) (qv P)) ∧ (¬ (s 72 3 ≤ v2) → (0 ≤ v2 ∧ v2 < 7) ∧ (0 ≤ v2 ∧ v2 < 7) ∧ Fr xs L T0 106 d 195 2 [some (rf 73), some (it v1), some (it (zw (v2 + 1))), none, none] [] (zup s 97 v2 (s 75 v2)) (qv P)))) : Fr xs L T0 106 d 195 2 [some (rf 73), some (it v1), some (it v2), none, none] [] s (qv P) := by
  refine Fr.ildn (by decide +kernel : zi 195 2 = some (.iload_n 2, 1)) rfl ?_
  refine Fr.aldn (c := 73) (by decide +kernel : zi 195 3 = some (.aload_n 0, 1)) rfl ⟨by omega, by omega⟩ ?_
  refine Fr.gI (c := 72) (ci := 8) (k := 3) (t := 0) 3 (by decide +kernel : zi 195 4 = some (.getfield 122, 3)) (by decide +kernel) (by decide +kernel) (by decide +kernel) (by decide) rfl ?_
  refine Fr.if2 (q := 28) (by decide +kernel : zi 195 7 = some (.if_icmp .ge 21, 3)) (by decide +kernel) (fun g9 => ?_) (fun g9 => ?_)
  · have h := h.1 g9
    refine Fr.aldn (c := 73) (by decide +kernel : zi 195 28 = some (.aload_n 0, 1)) rfl ⟨by omega, by omega⟩ ?_
    refine Fr.gI (c := 72) (ci := 8) (k := 2) (t := 0) 2 (by decide +kernel : zi 195 29 = some (.getfield 129, 3)) (by decide +kernel) (by decide +kernel) (by decide +kernel) (by decide) rfl ?_
    refine Fr.istn (lv2 := [some (rf 73), some (it v1), some (it (s 72 2)), none, none]) (by decide +kernel : zi 195 32 = some (.istore_n 2, 1)) (Nat.le_of_ble_eq_true rfl) rfl ?_
    refine Fr.aldn (c := 73) (by decide +kernel : zi 195 33 = some (.aload_n 0, 1)) rfl ⟨by omega, by omega⟩ ?_
    refine Fr.iconst (by decide +kernel : zi 195 34 = some (.iconst 0, 1)) (by decide) ?_
    refine Fr.pI (c := 72) (ci := 8) (k := 37) 37 (by decide +kernel : zi 195 35 = some (.putfield 299, 3)) (by decide +kernel) (by decide +kernel) (by decide +kernel) (by decide) rfl ?_
    refine Fr.iconst (by decide +kernel : zi 195 38 = some (.iconst 0, 1)) (by decide) ?_
    refine Fr.istn (lv2 := [some (rf 73), some (it v1), some (it (s 72 2)), some (it 0), none]) (by decide +kernel : zi 195 39 = some (.istore_n 3, 1)) (Nat.le_of_ble_eq_true rfl) rfl ?_
    exact h
  · have h := h.2 g9
    refine Fr.aldn (c := 73) (by decide +kernel : zi 195 10 = some (.aload_n 0, 1)) rfl ⟨by omega, by omega⟩ ?_
    refine Fr.gR (c := 72) (c2 := 98) (ci := 8) (k := 42) 42 (by decide +kernel : zi 195 11 = some (.getfield 88, 3)) (by decide +kernel) (by decide +kernel) (by decide +kernel) (by decide) rfl (fun q => q (72, 42, 98) (by decide +kernel)) ?_
    refine Fr.ildn (by decide +kernel : zi 195 14 = some (.iload_n 2, 1)) rfl ?_
    refine Fr.aldn (c := 73) (by decide +kernel : zi 195 15 = some (.aload_n 0, 1)) rfl ⟨by omega, by omega⟩ ?_
    refine Fr.gR (c := 72) (c2 := 76) (ci := 8) (k := 5) 5 (by decide +kernel : zi 195 16 = some (.getfield 16, 3)) (by decide +kernel) (by decide +kernel) (by decide +kernel) (by decide) rfl (fun q => q (72, 5, 76) (by decide +kernel)) ?_
    refine Fr.ildn (by decide +kernel : zi 195 19 = some (.iload_n 2, 1)) rfl ?_
    obtain ⟨⟨g0, g1⟩, h⟩ := h
    refine Fr.iald (c := 75) (N := 7) (by decide +kernel : zi 195 20 = some (.iaload, 1)) (by decide +kernel) (by decide) g0 g1 ?_
    obtain ⟨⟨g0, g1⟩, h⟩ := h
    refine Fr.iast (c := 97) (N := 7) (by decide +kernel : zi 195 21 = some (.iastore, 1)) (by decide +kernel) (by decide) g0 g1 ?_
    refine Fr.iinc (lv2 := [some (rf 73), some (it v1), some (it (zw (v2 + 1))), none, none]) (by decide +kernel : zi 195 22 = some (.iinc 2 1, 3)) (Nat.le_of_ble_eq_true rfl) rfl rfl ?_
    refine Fr.goto (q := 2) (by decide +kernel : zi 195 25 = some (.goto (-23), 3)) (by decide +kernel) ?_
    exact h
theorem f195_40 {xs : Nat → Int} {L : Nat} {d : Nat} {v1 : Int} {v2 : Int} {v3 : Int} {s : Pl} {P : Pl → Prop} (h : ((4096 ≤ v3 → Ev xs L T0 106 d 193 [rf 73, it 0] s (qv fun s1 => Fr xs L T0 106 d 195 67 [some (rf 73), some (it v1), some (it v2), some (it 0), none] [] s1 (qv P))) ∧ (¬ (4096 ≤ v3) → (0 ≤ v3 ∧ v3 < 4096) ∧ Fr xs L T0 106 d 195 40 [some (rf 73), some (it v1), some (it v2), some (it (zw (v3 + 1))), none] [] (zup s 96 v3 0) (qv P)))) : Fr xs L T0 106 d 195 40 [some (rf 73), some (it v1), some (it v2), some (it v3), none] [] s (qv P) := by
  refine Fr.ildn (by decide +kernel : zi 195 40 = some (.iload_n 3, 1)) rfl ?_
  refine Fr.sipush (by decide +kernel : zi 195 41 = some (.sipush 4096, 3)) (by decide) ?_
  refine Fr.if2 (q := 60) (by decide +kernel : zi 195 44 = some (.if_icmp .ge 16, 3)) (by decide +kernel) (fun g9 => ?_) (fun g9 => ?_)
  · have h := h.1 g9
    refine Fr.aldn (c := 73) (by decide +kernel : zi 195 60 = some (.aload_n 0, 1)) rfl ⟨by omega, by omega⟩ ?_
    refine Fr.iconst (by decide +kernel : zi 195 61 = some (.iconst 0, 1)) (by decide) ?_
    refine Fr.callV (y2 := 193) (na := 2) (as := [rf 73, it 0]) (rest := []) (by decide +kernel : zi 195 62 = some (.invokevirtual 305, 3)) rfl (by decide +kernel) (by decide +kernel) rfl rfl (zok_V rfl (by decide) (by decide +kernel) (by decide +kernel) (zrecv_c (c := 72) (by decide) (by decide +kernel)) rfl (Nat.le_of_ble_eq_true rfl)) h (fun s1 h => ?_)
    refine Fr.iconst (by decide +kernel : zi 195 65 = some (.iconst 0, 1)) (by decide) ?_
    refine Fr.istn (lv2 := [some (rf 73), some (it v1), some (it v2), some (it 0), none]) (by decide +kernel : zi 195 66 = some (.istore_n 3, 1)) (Nat.le_of_ble_eq_true rfl) rfl ?_
    exact h
  · have h := h.2 g9
    refine Fr.aldn (c := 73) (by decide +kernel : zi 195 47 = some (.aload_n 0, 1)) rfl ⟨by omega, by omega⟩ ?_
    refine Fr.gR (c := 72) (c2 := 97) (ci := 8) (k := 41) 41 (by decide +kernel : zi 195 48 = some (.getfield 85, 3)) (by decide +kernel) (by decide +kernel) (by decide +kernel) (by decide) rfl (fun q => q (72, 41, 97) (by decide +kernel)) ?_
    refine Fr.ildn (by decide +kernel : zi 195 51 = some (.iload_n 3, 1)) rfl ?_
    refine Fr.iconst (by decide +kernel : zi 195 52 = some (.iconst 0, 1)) (by decide) ?_
    obtain ⟨⟨g0, g1⟩, h⟩ := h
    refine Fr.iast (c := 96) (N := 4096) (by decide +kernel : zi 195 53 = some (.iastore, 1)) (by decide +kernel) (by decide) g0 g1 ?_
    refine Fr.iinc (lv2 := [some (rf 73), some (it v1), some (it v2), some (it (zw (v3 + 1))), none]) (by decide +kernel : zi 195 54 = some (.iinc 3 1, 3)) (Nat.le_of_ble_eq_true rfl) rfl rfl ?_
    refine Fr.goto (q := 40) (by decide +kernel : zi 195 57 = some (.goto (-17), 3)) (by decide +kernel) ?_
    exact h
theorem f195_67 {xs : Nat → Int} {L : Nat} {d : Nat} {v1 : Int} {v2 : Int} {v3 : Int} {w4 : Option AV} {s : Pl} {P : Pl → Prop} (h : ((v3 < 0 → Fr xs L T0 106 d 195 143 [some (rf 73), some (it v1), some (it v2), some (it v3), some (it 0)] [] s (qv P)) ∧ (¬ (v3 < 0) → (0 ≤ v3 ∧ v3 < 1500 ∧ ((1 : Int) = 0 ∨ (1 : Int) = 1)) ∧ Ev xs L T0 106 d 194 [rf 73, it v3, it v1] (zup s 95 v3 1) (qv fun s1 => Fr xs L T0 106 d 195 89 [some (rf 73), some (it v1), some (it v2), some (it (-1)), some (it 0)] [] s1 (qv P))))) : Fr xs L T0 106 d 195 67 [some (rf 73), some (it v1), some (it v2), some (it v3), w4] [] s (qv P) := by
  refine Fr.ildn (by decide +kernel : zi 195 67 = some (.iload_n 3, 1)) rfl ?_
  refine Fr.if0 (q := 140) (by decide +kernel : zi 195 68 = some (.ifCond .lt 72, 3)) (by decide +kernel) (fun g9 => ?_) (fun g9 => ?_)
  · have h := h.1 g9
    refine Fr.iconst (by decide +kernel : zi 195 140 = some (.iconst 0, 1)) (by decide) ?_
    refine Fr.ist (lv2 := [some (rf 73), some (it v1), some (it v2), some (it v3), some (it 0)]) (by decide +kernel : zi 195 141 = some (.istore 4, 2)) (Nat.le_of_ble_eq_true rfl) rfl ?_
    exact h
  · have h := h.2 g9
    refine Fr.aldn (c := 73) (by decide +kernel : zi 195 71 = some (.aload_n 0, 1)) rfl ⟨by omega, by omega⟩ ?_
    refine Fr.gR (c := 72) (c2 := 96) (ci := 8) (k := 40) 40 (by decide +kernel : zi 195 72 = some (.getfield 81, 3)) (by decide +kernel) (by decide +kernel) (by decide +kernel) (by decide) rfl (fun q => q (72, 40, 96) (by decide +kernel)) ?_
    refine Fr.ildn (by decide +kernel : zi 195 75 = some (.iload_n 3, 1)) rfl ?_
    refine Fr.iconst (by decide +kernel : zi 195 76 = some (.iconst 1, 1)) (by decide) ?_
    obtain ⟨⟨g0, g1, g2⟩, h⟩ := h
    refine Fr.zast (c := 95) (N := 1500) (by decide +kernel : zi 195 77 = some (.bastore, 1)) (by decide +kernel) (by decide) g0 g1 g2 ?_
    refine Fr.aldn (c := 73) (by decide +kernel : zi 195 78 = some (.aload_n 0, 1)) rfl ⟨by omega, by omega⟩ ?_
    refine Fr.ildn (by decide +kernel : zi 195 79 = some (.iload_n 3, 1)) rfl ?_
    refine Fr.ildn (by decide +kernel : zi 195 80 = some (.iload_n 1, 1)) rfl ?_
    refine Fr.callV (y2 := 194) (na := 3) (as := [rf 73, it v3, it v1]) (rest := []) (by decide +kernel : zi 195 81 = some (.invokevirtual 308, 3)) rfl (by decide +kernel) (by decide +kernel) rfl rfl (zok_V rfl (by decide) (by decide +kernel) (by decide +kernel) (zrecv_c (c := 72) (by decide) (by decide +kernel)) rfl (Nat.le_of_ble_eq_true rfl)) h (fun s1 h => ?_)
    refine Fr.iconst (by decide +kernel : zi 195 84 = some (.iconst (-1), 1)) (by decide) ?_
    refine Fr.istn (lv2 := [some (rf 73), some (it v1), some (it v2), some (it (-1)), w4]) (by decide +kernel : zi 195 85 = some (.istore_n 3, 1)) (Nat.le_of_ble_eq_true rfl) rfl ?_
    refine Fr.iconst (by decide +kernel : zi 195 86 = some (.iconst 0, 1)) (by decide) ?_
    refine Fr.ist (lv2 := [some (rf 73), some (it v1), some (it v2), some (it (-1)), some (it 0)]) (by decide +kernel : zi 195 87 = some (.istore 4, 2)) (Nat.le_of_ble_eq_true rfl) rfl ?_
    exact h
theorem f195_89 {xs : Nat → Int} {L : Nat} {d : Nat} {v1 : Int} {v2 : Int} {v3 : Int} {v4 : Int} {s : Pl} {P : Pl → Prop} (h : ((s 72 37 ≤ v4 → Fr xs L T0 106 d 195 67 [some (rf 73), some (it v1), some (it v2), some (it v3), some (it v4)] [] s (qv P)) ∧ (¬ (s 72 37 ≤ v4) → (0 ≤ v4 ∧ v4 < 1500) ∧ ((¬ s 95 v4 = 0 → Fr xs L T0 106 d 195 131 [some (rf 73), some (it v1), some (it v2), some (it v3), some (it v4)] [] s (qv P)) ∧ (¬ (¬ s 95 v4 = 0) → ((v3 < 0 → Fr xs L T0 106 d 195 128 [some (rf 73), some (it v1), some (it v2), some (it v3), some (it v4)] [] s (qv P)) ∧ (¬ (v3 < 0) → (0 ≤ v4 ∧ v4 < 1500) ∧ (0 ≤ v3 ∧ v3 < 1500) ∧ ((s 94 v3 ≤ s 94 v4 → Fr xs L T0 106 d 195 131 [some (rf 73), some (it v1), some (it v2), some (it v3), some (it v4)] [] s (qv P)) ∧ (¬ (s 94 v3 ≤ s 94 v4) → Fr xs L T0 106 d 195 128 [some (rf 73), some (it v1), some (it v2), some (it v3), some (it v4)] [] s (qv P)))))))))) : Fr xs L T0 106 d 195 89 [some (rf 73), some (it v1), some (it v2), some (it v3), some (it v4)] [] s (qv P) := by
  refine Fr.ild (by decide +kernel : zi 195 89 = some (.iload 4, 2)) rfl ?_
  refine Fr.aldn (c := 73) (by decide +kernel : zi 195 91 = some (.aload_n 0, 1)) rfl ⟨by omega, by omega⟩ ?_
  refine Fr.gI (c := 72) (ci := 8) (k := 37) (t := 0) 37 (by decide +kernel : zi 195 92 = some (.getfield 299, 3)) (by decide +kernel) (by decide +kernel) (by decide +kernel) (by decide) rfl ?_
  refine Fr.if2 (q := 137) (by decide +kernel : zi 195 95 = some (.if_icmp .ge 42, 3)) (by decide +kernel) (fun g9 => ?_) (fun g9 => ?_)
  · have h := h.1 g9
    refine Fr.goto (q := 67) (by decide +kernel : zi 195 137 = some (.goto (-70), 3)) (by decide +kernel) ?_
    exact h
  · have h := h.2 g9
    refine Fr.aldn (c := 73) (by decide +kernel : zi 195 98 = some (.aload_n 0, 1)) rfl ⟨by omega, by omega⟩ ?_
    refine Fr.gR (c := 72) (c2 := 96) (ci := 8) (k := 40) 40 (by decide +kernel : zi 195 99 = some (.getfield 81, 3)) (by decide +kernel) (by decide +kernel) (by decide +kernel) (by decide) rfl (fun q => q (72, 40, 96) (by decide +kernel)) ?_
    refine Fr.ild (by decide +kernel : zi 195 102 = some (.iload 4, 2)) rfl ?_
    obtain ⟨⟨g0, g1⟩, h⟩ := h
    refine Fr.bald (c := 95) (N := 1500) (K := 22) (by decide +kernel : zi 195 104 = some (.baload, 1)) (by decide +kernel) (by decide) (by decide) g0 g1 ?_
    refine Fr.if0 (q := 131) (by decide +kernel : zi 195 105 = some (.ifCond .ne 26, 3)) (by decide +kernel) (fun g9 => ?_) (fun g9 => ?_)
    · have h := h.1 g9
      exact h
    · have h := h.2 g9
      refine Fr.ildn (by decide +kernel : zi 195 108 = some (.iload_n 3, 1)) rfl ?_
      refine Fr.if0 (q := 128) (by decide +kernel : zi 195 109 = some (.ifCond .lt 19, 3)) (by decide +kernel) (fun g9 => ?_) (fun g9 => ?_)
      · have h := h.1 g9
        exact h
      · have h := h.2 g9
        refine Fr.aldn (c := 73) (by decide +kernel : zi 195 112 = some (.aload_n 0, 1)) rfl ⟨by omega, by omega⟩ ?_
        refine Fr.gR (c := 72) (c2 := 95) (ci := 8) (k := 39) 39 (by decide +kernel : zi 195 113 = some (.getfield 78, 3)) (by decide +kernel) (by decide +kernel) (by decide +kernel) (by decide) rfl (fun q => q (72, 39, 95) (by decide +kernel)) ?_
        refine Fr.ild (by decide +kernel : zi 195 116 = some (.iload 4, 2)) rfl ?_
        obtain ⟨⟨g0, g1⟩, h⟩ := h
        refine Fr.iald (c := 94) (N := 1500) (by decide +kernel : zi 195 118 = some (.iaload, 1)) (by decide +kernel) (by decide) g0 g1 ?_
        refine Fr.aldn (c := 73) (by decide +kernel : zi 195 119 = some (.aload_n 0, 1)) rfl ⟨by omega, by omega⟩ ?_
        refine Fr.gR (c := 72) (c2 := 95) (ci := 8) (k := 39) 39 (by decide +kernel : zi 195 120 = some (.getfield 78, 3)) (by decide +kernel) (by decide +kernel) (by decide +kernel) (by decide) rfl (fun q => q (72, 39, 95) (by decide +kernel)) ?_
        refine Fr.ildn (by decide +kernel : zi 195 123 = some (.iload_n 3, 1)) rfl ?_
        obtain ⟨⟨g0, g1⟩, h⟩ := h
        refine Fr.iald (c := 94) (N := 1500) (by decide +kernel : zi 195 124 = some (.iaload, 1)) (by decide +kernel) (by decide) g0 g1 ?_
        refine Fr.if2 (q := 131) (by decide +kernel : zi 195 125 = some (.if_icmp .ge 6, 3)) (by decide +kernel) (fun g9 => ?_) (fun g9 => ?_)
        · have h := h.1 g9
          exact h
        · have h := h.2 g9
          exact h
theorem f195_128 {xs : Nat → Int} {L : Nat} {d : Nat} {v1 : Int} {v2 : Int} {v3 : Int} {v4 : Int} {s : Pl} {P : Pl → Prop} (h : Fr xs L T0 106 d 195 131 [some (rf 73), some (it v1), some (it v2), some (it v4), some (it v4)] [] s (qv P)) : Fr xs L T0 106 d 195 128 [some (rf 73), some (it v1), some (it v2), some (it v3), some (it v4)] [] s (qv P) := by
  refine Fr.ild (by decide +kernel : zi 195 128 = some (.iload 4, 2)) rfl ?_
  refine Fr.istn (lv2 := [some (rf 73), some (it v1), some (it v2), some (it v4), some (it v4)]) (by decide +kernel : zi 195 130 = some (.istore_n 3, 1)) (Nat.le_of_ble_eq_true rfl) rfl ?_
  exact h
theorem f195_131 {xs : Nat → Int} {L : Nat} {d : Nat} {v1 : Int} {v2 : Int} {v3 : Int} {v4 : Int} {s : Pl} {P : Pl → Prop} (h : Fr xs L T0 106 d 195 89 [some (rf 73), some (it v1), some (it v2), some (it v3), some (it (zw (v4 + 1)))] [] s (qv P)) : Fr xs L T0 106 d 195 131 [some (rf 73), some (it v1), some (it v2), some (it v3), some (it v4)] [] s (qv P) := by
  refine Fr.iinc (lv2 := [some (rf 73), some (it v1), some (it v2), some (it v3), some (it (zw (v4 + 1)))]) (by decide +kernel : zi 195 131 = some (.iinc 4 1, 3)) (Nat.le_of_ble_eq_true rfl) rfl rfl ?_
  refine Fr.goto (q := 89) (by decide +kernel : zi 195 134 = some (.goto (-45), 3)) (by decide +kernel) ?_
  exact h
theorem f195_143 {xs : Nat → Int} {L : Nat} {d : Nat} {v1 : Int} {v2 : Int} {v3 : Int} {v4 : Int} {s : Pl} {P : Pl → Prop} (h : ((s 72 3 ≤ v4 → P (zup s 72 2 v2)) ∧ (¬ (s 72 3 ≤ v4) → (0 ≤ v4 ∧ v4 < 7) ∧ (0 ≤ v4 ∧ v4 < 7) ∧ Fr xs L T0 106 d 195 143 [some (rf 73), some (it v1), some (it v2), some (it v3), some (it (zw (v4 + 1)))] [] (zup s 75 v4 (s 97 v4)) (qv P)))) : Fr xs L T0 106 d 195 143 [some (rf 73), some (it v1), some (it v2), some (it v3), some (it v4)] [] s (qv P) := by
  refine Fr.ild (by decide +kernel : zi 195 143 = some (.iload 4, 2)) rfl ?_
  refine Fr.aldn (c := 73) (by decide +kernel : zi 195 145 = some (.aload_n 0, 1)) rfl ⟨by omega, by omega⟩ ?_
  refine Fr.gI (c := 72) (ci := 8) (k := 3) (t := 0) 3 (by decide +kernel : zi 195 146 = some (.getfield 122, 3)) (by decide +kernel) (by decide +kernel) (by decide +kernel) (by decide) rfl ?_
  refine Fr.if2 (q := 172) (by decide +kernel : zi 195 149 = some (.if_icmp .ge 23, 3)) (by decide +kernel) (fun g9 => ?_) (fun g9 => ?_)
  · have h := h.1 g9
    refine Fr.aldn (c := 73) (by decide +kernel : zi 195 172 = some (.aload_n 0, 1)) rfl ⟨by omega, by omega⟩ ?_
    refine Fr.ildn (by decide +kernel : zi 195 173 = some (.iload_n 2, 1)) rfl ?_
    refine Fr.pI (c := 72) (ci := 8) (k := 2) 2 (by decide +kernel : zi 195 174 = some (.putfield 129, 3)) (by decide +kernel) (by decide +kernel) (by decide +kernel) (by decide) rfl ?_
    exact Fr.retV (by decide +kernel : zi 195 177 = some (.return_, 1)) (by decide +kernel) h
  · have h := h.2 g9
    refine Fr.aldn (c := 73) (by decide +kernel : zi 195 152 = some (.aload_n 0, 1)) rfl ⟨by omega, by omega⟩ ?_
    refine Fr.gR (c := 72) (c2 := 76) (ci := 8) (k := 5) 5 (by decide +kernel : zi 195 153 = some (.getfield 16, 3)) (by decide +kernel) (by decide +kernel) (by decide +kernel) (by decide) rfl (fun q => q (72, 5, 76) (by decide +kernel)) ?_
    refine Fr.ild (by decide +kernel : zi 195 156 = some (.iload 4, 2)) rfl ?_
    refine Fr.aldn (c := 73) (by decide +kernel : zi 195 158 = some (.aload_n 0, 1)) rfl ⟨by omega, by omega⟩ ?_
    refine Fr.gR (c := 72) (c2 := 98) (ci := 8) (k := 42) 42 (by decide +kernel : zi 195 159 = some (.getfield 88, 3)) (by decide +kernel) (by decide +kernel) (by decide +kernel) (by decide) rfl (fun q => q (72, 42, 98) (by decide +kernel)) ?_
    refine Fr.ild (by decide +kernel : zi 195 162 = some (.iload 4, 2)) rfl ?_
    obtain ⟨⟨g0, g1⟩, h⟩ := h
    refine Fr.iald (c := 97) (N := 7) (by decide +kernel : zi 195 164 = some (.iaload, 1)) (by decide +kernel) (by decide) g0 g1 ?_
    obtain ⟨⟨g0, g1⟩, h⟩ := h
    refine Fr.iast (c := 75) (N := 7) (by decide +kernel : zi 195 165 = some (.iastore, 1)) (by decide +kernel) (by decide) g0 g1 ?_
    refine Fr.iinc (lv2 := [some (rf 73), some (it v1), some (it v2), some (it v3), some (it (zw (v4 + 1)))]) (by decide +kernel : zi 195 166 = some (.iinc 4 1, 3)) (Nat.le_of_ble_eq_true rfl) rfl rfl ?_
    refine Fr.goto (q := 143) (by decide +kernel : zi 195 169 = some (.goto (-26), 3)) (by decide +kernel) ?_
    exact h
-- 196 X8_leastBut
theorem f196_0 {xs : Nat → Int} {L : Nat} {d : Nat} {v1 : Int} {s : Pl} {P : Int → Pl → Prop} (h : Fr xs L T0 106 d 196 18 [some (rf 73), some (it v1), some (it (zand (zw ((zshl 1 (s 72 3)) - 1)) (zxor v1 (-1)))), some (it (-1)), some (it 0), none] [] s (qi P)) : Fr xs L T0 106 d 196 0 [some (rf 73), some (it v1), none, none, none, none] [] s (qi P) := by
  refine Fr.iconst (by decide +kernel : zi 196 0 = some (.iconst 1, 1)) (by decide) ?_
  refine Fr.aldn (c := 73) (by decide +kernel : zi 196 1 = some (.aload_n 0, 1)) rfl ⟨by omega, by omega⟩ ?_
  refine Fr.gI (c := 72) (ci := 8) (k := 3) (t := 0) 3 (by decide +kernel : zi 196 2 = some (.getfield 122, 3)) (by decide +kernel) (by decide +kernel) (by decide +kernel) (by decide) rfl ?_
  refine Fr.ishl (by decide +kernel : zi 196 5 = some (.ishl, 1)) ?_
  refine Fr.iconst (by decide +kernel : zi 196 6 = some (.iconst 1, 1)) (by decide) ?_
  refine Fr.isub (by decide +kernel : zi 196 7 = some (.isub, 1)) ?_
  refine Fr.ildn (by decide +kernel : zi 196 8 = some (.iload_n 1, 1)) rfl ?_
  refine Fr.iconst (by decide +kernel : zi 196 9 = some (.iconst (-1), 1)) (by decide) ?_
  refine Fr.ixor (by decide +kernel : zi 196 10 = some (.ixor, 1)) ?_
  refine Fr.iand (by decide +kernel : zi 196 11 = some (.iand, 1)) ?_
  refine Fr.istn (lv2 := [some (rf 73), some (it v1), some (it (zand (zw ((zshl 1 (s 72 3)) - 1)) (zxor v1 (-1)))), none, none, none]) (by decide +kernel : zi 196 12 = some (.istore_n 2, 1)) (Nat.le_of_ble_eq_true rfl) rfl ?_
  refine Fr.iconst (by decide +kernel : zi 196 13 = some (.iconst (-1), 1)) (by decide) ?_
  refine Fr.istn (lv2 := [some (rf 73), some (it v1), some (it (zand (zw ((zshl 1 (s 72 3)) - 1)) (zxor v1 (-1)))), some (it (-1)), none, none]) (by decide +kernel : zi 196 14 = some (.istore_n 3, 1)) (Nat.le_of_ble_eq_true rfl) rfl ?_
  refine Fr.iconst (by decide +kernel : zi 196 15 = some (.iconst 0, 1)) (by decide) ?_
  refine Fr.ist (lv2 := [some (rf 73), some (it v1), some (it (zand (zw ((zshl 1 (s 72 3)) - 1)) (zxor v1 (-1)))), some (it (-1)), some (it 0), none]) (by decide +kernel : zi 196 16 = some (.istore 4, 2)) (Nat.le_of_ble_eq_true rfl) rfl ?_
  exact h
theorem e196 {xs : Nat → Int} {L : Nat} {d : Nat} {v1 : Int} {s : Pl} {Q : Option AV → Pl → Prop} (hd : 1 ≤ d) (k : Fr xs L T0 106 (d - 1) 196 0 [some (rf 73), some (it v1), none, none, none, none] [] s Q) : Ev xs L T0 106 d 196 [rf 73, it v1] s Q := Ev.of (by decide) _ rfl hd k
theorem f196_18 {xs : Nat → Int} {L : Nat} {d : Nat} {v1 : Int} {v2 : Int} {v3 : Int} {v4 : Int} {s : Pl} {P : Int → Pl → Prop} (h : ((s 72 3 ≤ v4 → Fr xs L T0 106 d 196 56 [some (rf 73), some (it v1), some (it v2), some (it v3), some (it (s 72 2)), some (it 0)] [] s (qi P)) ∧ (¬ (s 72 3 ≤ v4) → (0 ≤ v4 ∧ v4 < 7) ∧ (0 ≤ v4 ∧ v4 < 7) ∧ Fr xs L T0 106 d 196 18 [some (rf 73), some (it v1), some (it v2), some (it v3), some (it (zw (v4 + 1))), none] [] (zup s 97 v4 (s 75 v4)) (qi P)))) : Fr xs L T0 106 d 196 18 [some (rf 73), some (it v1), some (it v2), some (it v3), some (it v4), none] [] s (qi P) := by
  refine Fr.ild (by decide +kernel : zi 196 18 = some (.iload 4, 2)) rfl ?_
  refine Fr.aldn (c := 73) (by decide +kernel : zi 196 20 = some (.aload_n 0, 1)) rfl ⟨by omega, by omega⟩ ?_
  refine Fr.gI (c := 72) (ci := 8) (k := 3) (t := 0) 3 (by decide +kernel : zi 196 21 = some (.getfield 122, 3)) (by decide +kernel) (by decide +kernel) (by decide +kernel) (by decide) rfl ?_
  refine Fr.if2 (q := 47) (by decide +kernel : zi 196 24 = some (.if_icmp .ge 23, 3)) (by decide +kernel) (fun g9 => ?_) (fun g9 => ?_)
  · have h := h.1 g9
    refine Fr.aldn (c := 73) (by decide +kernel : zi 196 47 = some (.aload_n 0, 1)) rfl ⟨by omega, by omega⟩ ?_
    refine Fr.gI (c := 72) (ci := 8) (k := 2) (t := 0) 2 (by decide +kernel : zi 196 48 = some (.getfield 129, 3)) (by decide +kernel) (by decide +kernel) (by decide +kernel) (by decide) rfl ?_
    refine Fr.ist (lv2 := [some (rf 73), some (it v1), some (it v2), some (it v3), some (it (s 72 2)), none]) (by decide +kernel : zi 196 51 = some (.istore 4, 2)) (Nat.le_of_ble_eq_true rfl) rfl ?_
    refine Fr.iconst (by decide +kernel : zi 196 53 = some (.iconst 0, 1)) (by decide) ?_
    refine Fr.ist (lv2 := [some (rf 73), some (it v1), some (it v2), some (it v3), some (it (s 72 2)), some (it 0)]) (by decide +kernel : zi 196 54 = some (.istore 5, 2)) (Nat.le_of_ble_eq_true rfl) rfl ?_
    exact h
  · have h := h.2 g9
    refine Fr.aldn (c := 73) (by decide +kernel : zi 196 27 = some (.aload_n 0, 1)) rfl ⟨by omega, by omega⟩ ?_
    refine Fr.gR (c := 72) (c2 := 98) (ci := 8) (k := 42) 42 (by decide +kernel : zi 196 28 = some (.getfield 88, 3)) (by decide +kernel) (by decide +kernel) (by decide +kernel) (by decide) rfl (fun q => q (72, 42, 98) (by decide +kernel)) ?_
    refine Fr.ild (by decide +kernel : zi 196 31 = some (.iload 4, 2)) rfl ?_
    refine Fr.aldn (c := 73) (by decide +kernel : zi 196 33 = some (.aload_n 0, 1)) rfl ⟨by omega, by omega⟩ ?_
    refine Fr.gR (c := 72) (c2 := 76) (ci := 8) (k := 5) 5 (by decide +kernel : zi 196 34 = some (.getfield 16, 3)) (by decide +kernel) (by decide +kernel) (by decide +kernel) (by decide) rfl (fun q => q (72, 5, 76) (by decide +kernel)) ?_
    refine Fr.ild (by decide +kernel : zi 196 37 = some (.iload 4, 2)) rfl ?_
    obtain ⟨⟨g0, g1⟩, h⟩ := h
    refine Fr.iald (c := 75) (N := 7) (by decide +kernel : zi 196 39 = some (.iaload, 1)) (by decide +kernel) (by decide) g0 g1 ?_
    obtain ⟨⟨g0, g1⟩, h⟩ := h
    refine Fr.iast (c := 97) (N := 7) (by decide +kernel : zi 196 40 = some (.iastore, 1)) (by decide +kernel) (by decide) g0 g1 ?_
    refine Fr.iinc (lv2 := [some (rf 73), some (it v1), some (it v2), some (it v3), some (it (zw (v4 + 1))), none]) (by decide +kernel : zi 196 41 = some (.iinc 4 1, 3)) (Nat.le_of_ble_eq_true rfl) rfl rfl ?_
    refine Fr.goto (q := 18) (by decide +kernel : zi 196 44 = some (.goto (-26), 3)) (by decide +kernel) ?_
    exact h
theorem f196_56 {xs : Nat → Int} {L : Nat} {d : Nat} {v1 : Int} {v2 : Int} {v3 : Int} {v4 : Int} {v5 : Int} {s : Pl} {P : Int → Pl → Prop} (h : ((s 72 37 ≤ v5 → Fr xs L T0 106 d 196 121 [some (rf 73), some (it v1), some (it v2), some (it v3), some (it v4), some (it 0)] [] s (qi P)) ∧ (¬ (s 72 37 ≤ v5) → ((v3 < 0 → Fr xs L T0 106 d 196 83 [some (rf 73), some (it v1), some (it v2), some (it v3), some (it v4), some (it v5)] [] s (qi P)) ∧ (¬ (v3 < 0) → (0 ≤ v5 ∧ v5 < 1500) ∧ ((s 94 v5 < v3 → Fr xs L T0 106 d 196 83 [some (rf 73), some (it v1), some (it v2), some (it v3), some (it v4), some (it v5)] [] s (qi P)) ∧ (¬ (s 94 v5 < v3) → Fr xs L T0 106 d 196 112 [some (rf 73), some (it v1), some (it v2), some (it v3), some (it v4), some (it v5)] [] s (qi P)))))))) : Fr xs L T0 106 d 196 56 [some (rf 73), some (it v1), some (it v2), some (it v3), some (it v4), some (it v5)] [] s (qi P) := by
  refine Fr.ild (by decide +kernel : zi 196 56 = some (.iload 5, 2)) rfl ?_
  refine Fr.aldn (c := 73) (by decide +kernel : zi 196 58 = some (.aload_n 0, 1)) rfl ⟨by omega, by omega⟩ ?_
  refine Fr.gI (c := 72) (ci := 8) (k := 37) (t := 0) 37 (by decide +kernel : zi 196 59 = some (.getfield 299, 3)) (by decide +kernel) (by decide +kernel) (by decide +kernel) (by decide) rfl ?_
  refine Fr.if2 (q := 118) (by decide +kernel : zi 196 62 = some (.if_icmp .ge 56, 3)) (by decide +kernel) (fun g9 => ?_) (fun g9 => ?_)
  · have h := h.1 g9
    refine Fr.iconst (by decide +kernel : zi 196 118 = some (.iconst 0, 1)) (by decide) ?_
    refine Fr.ist (lv2 := [some (rf 73), some (it v1), some (it v2), some (it v3), some (it v4), some (it 0)]) (by decide +kernel : zi 196 119 = some (.istore 5, 2)) (Nat.le_of_ble_eq_true rfl) rfl ?_
    exact h
  · have h := h.2 g9
    refine Fr.ildn (by decide +kernel : zi 196 65 = some (.iload_n 3, 1)) rfl ?_
    refine Fr.if0 (q := 83) (by decide +kernel : zi 196 66 = some (.ifCond .lt 17, 3)) (by decide +kernel) (fun g9 => ?_) (fun g9 => ?_)
    · have h := h.1 g9
      exact h
    · have h := h.2 g9
      refine Fr.aldn (c := 73) (by decide +kernel : zi 196 69 = some (.aload_n 0, 1)) rfl ⟨by omega, by omega⟩ ?_
      refine Fr.gR (c := 72) (c2 := 95) (ci := 8) (k := 39) 39 (by decide +kernel : zi 196 70 = some (.getfield 78, 3)) (by decide +kernel) (by decide +kernel) (by decide +kernel) (by decide) rfl (fun q => q (72, 39, 95) (by decide +kernel)) ?_
      refine Fr.ild (by decide +kernel : zi 196 73 = some (.iload 5, 2)) rfl ?_
      obtain ⟨⟨g0, g1⟩, h⟩ := h
      refine Fr.iald (c := 94) (N := 1500) (by decide +kernel : zi 196 75 = some (.iaload, 1)) (by decide +kernel) (by decide) g0 g1 ?_
      refine Fr.ildn (by decide +kernel : zi 196 76 = some (.iload_n 3, 1)) rfl ?_
      refine Fr.if2 (q := 83) (by decide +kernel : zi 196 77 = some (.if_icmp .lt 6, 3)) (by decide +kernel) (fun g9 => ?_) (fun g9 => ?_)
      · have h := h.1 g9
        exact h
      · have h := h.2 g9
        refine Fr.goto (q := 112) (by decide +kernel : zi 196 80 = some (.goto 32, 3)) (by decide +kernel) ?_
        exact h
theorem f196_83 {xs : Nat → Int} {L : Nat} {d : Nat} {v1 : Int} {v2 : Int} {v3 : Int} {v4 : Int} {v5 : Int} {s : Pl} {P : Int → Pl → Prop} (h : (0 ≤ v5 ∧ v5 < 1500) ∧ Ev xs L T0 106 d 192 [rf 73, it (s 93 v5)] s (qv fun s1 => Ev xs L T0 106 d 181 [rf 73] s1 (qi fun r3 s2 => ((¬ zand r3 v2 = v2 → Fr xs L T0 106 d 196 112 [some (rf 73), some (it v1), some (it v2), some (it v3), some (it v4), some (it v5)] [] s2 (qi P)) ∧ (¬ (¬ zand r3 v2 = v2) → (0 ≤ v5 ∧ v5 < 1500) ∧ Fr xs L T0 106 d 196 112 [some (rf 73), some (it v1), some (it v2), some (it (s2 94 v5)), some (it v4), some (it v5)] [] s2 (qi P)))))) : Fr xs L T0 106 d 196 83 [some (rf 73), some (it v1), some (it v2), some (it v3), some (it v4), some (it v5)] [] s (qi P) := by
  refine Fr.aldn (c := 73) (by decide +kernel : zi 196 83 = some (.aload_n 0, 1)) rfl ⟨by omega, by omega⟩ ?_
  refine Fr.aldn (c := 73) (by decide +kernel : zi 196 84 = some (.aload_n 0, 1)) rfl ⟨by omega, by omega⟩ ?_
  refine Fr.gR (c := 72) (c2 := 94) (ci := 8) (k := 38) 38 (by decide +kernel : zi 196 85 = some (.getfield 75, 3)) (by decide +kernel) (by decide +kernel) (by decide +kernel) (by decide) rfl (fun q => q (72, 38, 94) (by decide +kernel)) ?_
  refine Fr.ild (by decide +kernel : zi 196 88 = some (.iload 5, 2)) rfl ?_
  obtain ⟨⟨g0, g1⟩, h⟩ := h
  refine Fr.iald (c := 93) (N := 1500) (by decide +kernel : zi 196 90 = some (.iaload, 1)) (by decide +kernel) (by decide) g0 g1 ?_
  refine Fr.callV (y2 := 192) (na := 2) (as := [rf 73, it (s 93 v5)]) (rest := []) (by decide +kernel : zi 196 91 = some (.invokevirtual 302, 3)) rfl (by decide +kernel) (by decide +kernel) rfl rfl (zok_V rfl (by decide) (by decide +kernel) (by decide +kernel) (zrecv_c (c := 72) (by decide) (by decide +kernel)) rfl (Nat.le_of_ble_eq_true rfl)) h (fun s1 h => ?_)
  refine Fr.aldn (c := 73) (by decide +kernel : zi 196 94 = some (.aload_n 0, 1)) rfl ⟨by omega, by omega⟩ ?_
  refine Fr.callI (y2 := 181) (na := 1) (as := [rf 73]) (rest := []) (by decide +kernel : zi 196 95 = some (.invokevirtual 293, 3)) rfl (by decide +kernel) (by decide +kernel) rfl rfl (zok_V rfl (by decide) (by decide +kernel) (by decide +kernel) (zrecv_c (c := 72) (by decide) (by decide +kernel)) rfl (Nat.le_of_ble_eq_true rfl)) h (fun r3 s2 h => ?_)
  refine Fr.ildn (by decide +kernel : zi 196 98 = some (.iload_n 2, 1)) rfl ?_
  refine Fr.iand (by decide +kernel : zi 196 99 = some (.iand, 1)) ?_
  refine Fr.ildn (by decide +kernel : zi 196 100 = some (.iload_n 2, 1)) rfl ?_
  refine Fr.if2 (q := 112) (by decide +kernel : zi 196 101 = some (.if_icmp .ne 11, 3)) (by decide +kernel) (fun g9 => ?_) (fun g9 => ?_)
  · have h := h.1 g9
    exact h
  · have h := h.2 g9
    refine Fr.aldn (c := 73) (by decide +kernel : zi 196 104 = some (.aload_n 0, 1)) rfl ⟨by omega, by omega⟩ ?_
    refine Fr.gR (c := 72) (c2 := 95) (ci := 8) (k := 39) 39 (by decide +kernel : zi 196 105 = some (.getfield 78, 3)) (by decide +kernel) (by decide +kernel) (by decide +kernel) (by decide) rfl (fun q => q (72, 39, 95) (by decide +kernel)) ?_
    refine Fr.ild (by decide +kernel : zi 196 108 = some (.iload 5, 2)) rfl ?_
    obtain ⟨⟨g0, g1⟩, h⟩ := h
    refine Fr.iald (c := 94) (N := 1500) (by decide +kernel : zi 196 110 = some (.iaload, 1)) (by decide +kernel) (by decide) g0 g1 ?_
    refine Fr.istn (lv2 := [some (rf 73), some (it v1), some (it v2), some (it (s2 94 v5)), some (it v4), some (it v5)]) (by decide +kernel : zi 196 111 = some (.istore_n 3, 1)) (Nat.le_of_ble_eq_true rfl) rfl ?_
    exact h
theorem f196_112 {xs : Nat → Int} {L : Nat} {d : Nat} {v1 : Int} {v2 : Int} {v3 : Int} {v4 : Int} {v5 : Int} {s : Pl} {P : Int → Pl → Prop} (h : Fr xs L T0 106 d 196 56 [some (rf 73), some (it v1), some (it v2), some (it v3), some (it v4), some (it (zw (v5 + 1)))] [] s (qi P)) : Fr xs L T0 106 d 196 112 [some (rf 73), some (it v1), some (it v2), some (it v3), some (it v4), some (it v5)] [] s (qi P) := by
  refine Fr.iinc (lv2 := [some (rf 73), some (it v1), some (it v2), some (it v3), some (it v4), some (it (zw (v5 + 1)))]) (by decide +kernel : zi 196 112 = some (.iinc 5 1, 3)) (Nat.le_of_ble_eq_true rfl) rfl rfl ?_
  refine Fr.goto (q := 56) (by decide +kernel : zi 196 115 = some (.goto (-59), 3)) (by decide +kernel) ?_
  exact h
theorem f196_121 {xs : Nat → Int} {L : Nat} {d : Nat} {v1 : Int} {v2 : Int} {v3 : Int} {v4 : Int} {v5 : Int} {s : Pl} {P : Int → Pl → Prop} (h : ((s 72 3 ≤ v5 → P v3 (zup s 72 2 v4)) ∧ (¬ (s 72 3 ≤ v5) → (0 ≤ v5 ∧ v5 < 7) ∧ (0 ≤ v5 ∧ v5 < 7) ∧ Fr xs L T0 106 d 196 121 [some (rf 73), some (it v1), some (it v2), some (it v3), some (it v4), some (it (zw (v5 + 1)))] [] (zup s 75 v5 (s 97 v5)) (qi P)))) : Fr xs L T0 106 d 196 121 [some (rf 73), some (it v1), some (it v2), some (it v3), some (it v4), some (it v5)] [] s (qi P) := by
  refine Fr.ild (by decide +kernel : zi 196 121 = some (.iload 5, 2)) rfl ?_
  refine Fr.aldn (c := 73) (by decide +kernel : zi 196 123 = some (.aload_n 0, 1)) rfl ⟨by omega, by omega⟩ ?_
  refine Fr.gI (c := 72) (ci := 8) (k := 3) (t := 0) 3 (by decide +kernel : zi 196 124 = some (.getfield 122, 3)) (by decide +kernel) (by decide +kernel) (by decide +kernel) (by decide) rfl ?_
  refine Fr.if2 (q := 150) (by decide +kernel : zi 196 127 = some (.if_icmp .ge 23, 3)) (by decide +kernel) (fun g9 => ?_) (fun g9 => ?_)
  · have h := h.1 g9
    refine Fr.aldn (c := 73) (by decide +kernel : zi 196 150 = some (.aload_n 0, 1)) rfl ⟨by omega, by omega⟩ ?_
    refine Fr.ild (by decide +kernel : zi 196 151 = some (.iload 4, 2)) rfl ?_
    refine Fr.pI (c := 72) (ci := 8) (k := 2) 2 (by decide +kernel : zi 196 153 = some (.putfield 129, 3)) (by decide +kernel) (by decide +kernel) (by decide +kernel) (by decide) rfl ?_
    refine Fr.ildn (by decide +kernel : zi 196 156 = some (.iload_n 3, 1)) rfl ?_
    exact Fr.retI (by decide +kernel : zi 196 157 = some (.ireturn, 1)) (by decide +kernel) h
  · have h := h.2 g9
    refine Fr.aldn (c := 73) (by decide +kernel : zi 196 130 = some (.aload_n 0, 1)) rfl ⟨by omega, by omega⟩ ?_
    refine Fr.gR (c := 72) (c2 := 76) (ci := 8) (k := 5) 5 (by decide +kernel : zi 196 131 = some (.getfield 16, 3)) (by decide +kernel) (by decide +kernel) (by decide +kernel) (by decide) rfl (fun q => q (72, 5, 76) (by decide +kernel)) ?_
    refine Fr.ild (by decide +kernel : zi 196 134 = some (.iload 5, 2)) rfl ?_
    refine Fr.aldn (c := 73) (by decide +kernel : zi 196 136 = some (.aload_n 0, 1)) rfl ⟨by omega, by omega⟩ ?_
    refine Fr.gR (c := 72) (c2 := 98) (ci := 8) (k := 42) 42 (by decide +kernel : zi 196 137 = some (.getfield 88, 3)) (by decide +kernel) (by decide +kernel) (by decide +kernel) (by decide) rfl (fun q => q (72, 42, 98) (by decide +kernel)) ?_
    refine Fr.ild (by decide +kernel : zi 196 140 = some (.iload 5, 2)) rfl ?_
    obtain ⟨⟨g0, g1⟩, h⟩ := h
    refine Fr.iald (c := 97) (N := 7) (by decide +kernel : zi 196 142 = some (.iaload, 1)) (by decide +kernel) (by decide) g0 g1 ?_
    obtain ⟨⟨g0, g1⟩, h⟩ := h
    refine Fr.iast (c := 75) (N := 7) (by decide +kernel : zi 196 143 = some (.iastore, 1)) (by decide +kernel) (by decide) g0 g1 ?_
    refine Fr.iinc (lv2 := [some (rf 73), some (it v1), some (it v2), some (it v3), some (it v4), some (it (zw (v5 + 1)))]) (by decide +kernel : zi 196 144 = some (.iinc 5 1, 3)) (Nat.le_of_ble_eq_true rfl) rfl rfl ?_
    refine Fr.goto (q := 121) (by decide +kernel : zi 196 147 = some (.goto (-26), 3)) (by decide +kernel) ?_
    exact h
-- 197 X8_allBy
theorem f197_0 {xs : Nat → Int} {L : Nat} {d : Nat} {v1 : Int} {s : Pl} {P : Int → Pl → Prop} (h : Ev xs L T0 106 d 195 [rf 73, it v1] s (qv fun s1 => Ev xs L T0 106 d 196 [rf 73, it 0] s1 (qi fun r3 s2 => P r3 s2))) : Fr xs L T0 106 d 197 0 [some (rf 73), some (it v1)] [] s (qi P) := by
  refine Fr.aldn (c := 73) (by decide +kernel : zi 197 0 = some (.aload_n 0, 1)) rfl ⟨by omega, by omega⟩ ?_
  refine Fr.ildn (by decide +kernel : zi 197 1 = some (.iload_n 1, 1)) rfl ?_
  refine Fr.callV (y2 := 195) (na := 2) (as := [rf 73, it v1]) (rest := []) (by decide +kernel : zi 197 2 = some (.invokevirtual 311, 3)) rfl (by decide +kernel) (by decide +kernel) rfl rfl (zok_V rfl (by decide) (by decide +kernel) (by decide +kernel) (zrecv_c (c := 72) (by decide) (by decide +kernel)) rfl (Nat.le_of_ble_eq_true rfl)) h (fun s1 h => ?_)
  refine Fr.aldn (c := 73) (by decide +kernel : zi 197 5 = some (.aload_n 0, 1)) rfl ⟨by omega, by omega⟩ ?_
  refine Fr.iconst (by decide +kernel : zi 197 6 = some (.iconst 0, 1)) (by decide) ?_
  refine Fr.callI (y2 := 196) (na := 2) (as := [rf 73, it 0]) (rest := []) (by decide +kernel : zi 197 7 = some (.invokevirtual 314, 3)) rfl (by decide +kernel) (by decide +kernel) rfl rfl (zok_V rfl (by decide) (by decide +kernel) (by decide +kernel) (zrecv_c (c := 72) (by decide) (by decide +kernel)) rfl (Nat.le_of_ble_eq_true rfl)) h (fun r3 s2 h => ?_)
  exact Fr.retI (by decide +kernel : zi 197 10 = some (.ireturn, 1)) (by decide +kernel) h
theorem e197 {xs : Nat → Int} {L : Nat} {d : Nat} {v1 : Int} {s : Pl} {Q : Option AV → Pl → Prop} (hd : 1 ≤ d) (k : Fr xs L T0 106 (d - 1) 197 0 [some (rf 73), some (it v1)] [] s Q) : Ev xs L T0 106 d 197 [rf 73, it v1] s Q := Ev.of (by decide) _ rfl hd k
-- 198 X8_all
theorem f198_0 {xs : Nat → Int} {L : Nat} {d : Nat} {v1 : Int} {s : Pl} {P : Int → Pl → Prop} (h : Ev xs L T0 106 d 132 [it v1, it 0, it 2] s (qi fun r2 s1 => ((r2 = 0 → P (-2) s1) ∧ (¬ (r2 = 0) → Ev xs L T0 106 d 197 [rf 73, it v1] s1 (qi fun r4 s3 => P r4 s3))))) : Fr xs L T0 106 d 198 0 [some (rf 73), some (it v1)] [] s (qi P) := by
  refine Fr.ildn (by decide +kernel : zi 198 0 = some (.iload_n 1, 1)) rfl ?_
  refine Fr.iconst (by decide +kernel : zi 198 1 = some (.iconst 0, 1)) (by decide) ?_
  refine Fr.iconst (by decide +kernel : zi 198 2 = some (.iconst 2, 1)) (by decide) ?_
  refine Fr.callI (y2 := 132) (na := 3) (as := [it v1, it 0, it 2]) (rest := []) (by decide +kernel : zi 198 3 = some (.invokestatic 118, 3)) rfl (by decide +kernel) (by decide +kernel) rfl rfl (zok_S rfl (by decide) (by decide +kernel) rfl (Nat.le_of_ble_eq_true rfl)) h (fun r2 s1 h => ?_)
  refine Fr.if0 (q := 17) (by decide +kernel : zi 198 6 = some (.ifCond .eq 11, 3)) (by decide +kernel) (fun g9 => ?_) (fun g9 => ?_)
  · have h := h.1 g9
    refine Fr.bipush (by decide +kernel : zi 198 17 = some (.bipush (-2), 2)) (by decide) ?_
    exact Fr.retI (by decide +kernel : zi 198 19 = some (.ireturn, 1)) (by decide +kernel) h
  · have h := h.2 g9
    refine Fr.aldn (c := 73) (by decide +kernel : zi 198 9 = some (.aload_n 0, 1)) rfl ⟨by omega, by omega⟩ ?_
    refine Fr.ildn (by decide +kernel : zi 198 10 = some (.iload_n 1, 1)) rfl ?_
    refine Fr.callI (y2 := 197) (na := 2) (as := [rf 73, it v1]) (rest := []) (by decide +kernel : zi 198 11 = some (.invokevirtual 317, 3)) rfl (by decide +kernel) (by decide +kernel) rfl rfl (zok_V rfl (by decide) (by decide +kernel) (by decide +kernel) (zrecv_c (c := 72) (by decide) (by decide +kernel)) rfl (Nat.le_of_ble_eq_true rfl)) h (fun r4 s3 h => ?_)
    refine Fr.goto (q := 19) (by decide +kernel : zi 198 14 = some (.goto 5, 3)) (by decide +kernel) ?_
    exact Fr.retI (by decide +kernel : zi 198 19 = some (.ireturn, 1)) (by decide +kernel) h
theorem e198 {xs : Nat → Int} {L : Nat} {d : Nat} {v1 : Int} {s : Pl} {Q : Option AV → Pl → Prop} (hd : 1 ≤ d) (k : Fr xs L T0 106 (d - 1) 198 0 [some (rf 73), some (it v1)] [] s Q) : Ev xs L T0 106 d 198 [rf 73, it v1] s Q := Ev.of (by decide) _ rfl hd k
-- 199 X8_soonest
theorem f199_0 {xs : Nat → Int} {L : Nat} {d : Nat} {v1 : Int} {s : Pl} {P : Int → Pl → Prop} (h : Ev xs L T0 106 d 135 [rf 73, it v1] s (qi fun r2 s1 => ((¬ r2 = 0 → Ev xs L T0 106 d 195 [rf 73, it 0] s1 (qv fun s3 => Ev xs L T0 106 d 184 [rf 73] s3 (qv fun s4 => Fr xs L T0 106 d 199 24 [some (rf 73), some (it v1), some (it (-1)), some (it 0)] [] s4 (qi P)))) ∧ (¬ (¬ r2 = 0) → P (-5) s1)))) : Fr xs L T0 106 d 199 0 [some (rf 73), some (it v1), none, none] [] s (qi P) := by
  refine Fr.aldn (c := 73) (by decide +kernel : zi 199 0 = some (.aload_n 0, 1)) rfl ⟨by omega, by omega⟩ ?_
  refine Fr.ildn (by decide +kernel : zi 199 1 = some (.iload_n 1, 1)) rfl ?_
  refine Fr.callI (y2 := 135) (na := 2) (as := [rf 73, it v1]) (rest := []) (by decide +kernel : zi 199 2 = some (.invokevirtual 237, 3)) rfl (by decide +kernel) (by decide +kernel) rfl rfl (zok_V rfl (by decide) (by decide +kernel) (by decide +kernel) (zrecv_c (c := 72) (by decide) (by decide +kernel)) rfl (Nat.le_of_ble_eq_true rfl)) h (fun r2 s1 h => ?_)
  refine Fr.if0 (q := 11) (by decide +kernel : zi 199 5 = some (.ifCond .ne 6, 3)) (by decide +kernel) (fun g9 => ?_) (fun g9 => ?_)
  · have h := h.1 g9
    refine Fr.aldn (c := 73) (by decide +kernel : zi 199 11 = some (.aload_n 0, 1)) rfl ⟨by omega, by omega⟩ ?_
    refine Fr.iconst (by decide +kernel : zi 199 12 = some (.iconst 0, 1)) (by decide) ?_
    refine Fr.callV (y2 := 195) (na := 2) (as := [rf 73, it 0]) (rest := []) (by decide +kernel : zi 199 13 = some (.invokevirtual 311, 3)) rfl (by decide +kernel) (by decide +kernel) rfl rfl (zok_V rfl (by decide) (by decide +kernel) (by decide +kernel) (zrecv_c (c := 72) (by decide) (by decide +kernel)) rfl (Nat.le_of_ble_eq_true rfl)) h (fun s3 h => ?_)
    refine Fr.aldn (c := 73) (by decide +kernel : zi 199 16 = some (.aload_n 0, 1)) rfl ⟨by omega, by omega⟩ ?_
    refine Fr.callV (y2 := 184) (na := 1) (as := [rf 73]) (rest := []) (by decide +kernel : zi 199 17 = some (.invokevirtual 275, 3)) rfl (by decide +kernel) (by decide +kernel) rfl rfl (zok_V rfl (by decide) (by decide +kernel) (by decide +kernel) (zrecv_c (c := 72) (by decide) (by decide +kernel)) rfl (Nat.le_of_ble_eq_true rfl)) h (fun s4 h => ?_)
    refine Fr.iconst (by decide +kernel : zi 199 20 = some (.iconst (-1), 1)) (by decide) ?_
    refine Fr.istn (lv2 := [some (rf 73), some (it v1), some (it (-1)), none]) (by decide +kernel : zi 199 21 = some (.istore_n 2, 1)) (Nat.le_of_ble_eq_true rfl) rfl ?_
    refine Fr.iconst (by decide +kernel : zi 199 22 = some (.iconst 0, 1)) (by decide) ?_
    refine Fr.istn (lv2 := [some (rf 73), some (it v1), some (it (-1)), some (it 0)]) (by decide +kernel : zi 199 23 = some (.istore_n 3, 1)) (Nat.le_of_ble_eq_true rfl) rfl ?_
    exact h
  · have h := h.2 g9
    refine Fr.bipush (by decide +kernel : zi 199 8 = some (.bipush (-5), 2)) (by decide) ?_
    exact Fr.retI (by decide +kernel : zi 199 10 = some (.ireturn, 1)) (by decide +kernel) h
theorem e199 {xs : Nat → Int} {L : Nat} {d : Nat} {v1 : Int} {s : Pl} {Q : Option AV → Pl → Prop} (hd : 1 ≤ d) (k : Fr xs L T0 106 (d - 1) 199 0 [some (rf 73), some (it v1), none, none] [] s Q) : Ev xs L T0 106 d 199 [rf 73, it v1] s Q := Ev.of (by decide) _ rfl hd k
theorem f199_24 {xs : Nat → Int} {L : Nat} {d : Nat} {v1 : Int} {v2 : Int} {v3 : Int} {s : Pl} {P : Int → Pl → Prop} (h : ((s 72 37 ≤ v3 → Ev xs L T0 106 d 185 [rf 73] s (qv fun s1 => P v2 s1)) ∧ (¬ (s 72 37 ≤ v3) → (0 ≤ v3 ∧ v3 < 1500) ∧ Ev xs L T0 106 d 192 [rf 73, it (s 93 v3)] s (qv fun s2 => (0 ≤ v1 ∧ v1 < 7) ∧ (0 ≤ v1 ∧ v1 < 7) ∧ ((¬ s2 75 v1 = s2 76 v1 → Fr xs L T0 106 d 199 78 [some (rf 73), some (it v1), some (it v2), some (it v3)] [] s2 (qi P)) ∧ (¬ (¬ s2 75 v1 = s2 76 v1) → ((v2 < 0 → Fr xs L T0 106 d 199 71 [some (rf 73), some (it v1), some (it v2), some (it v3)] [] s2 (qi P)) ∧ (¬ (v2 < 0) → (0 ≤ v3 ∧ v3 < 1500) ∧ ((v2 ≤ s2 94 v3 → Fr xs L T0 106 d 199 78 [some (rf 73), some (it v1), some (it v2), some (it v3)] [] s2 (qi P)) ∧ (¬ (v2 ≤ s2 94 v3) → Fr xs L T0 106 d 199 71 [some (rf 73), some (it v1), some (it v2), some (it v3)] [] s2 (qi P))))))))))) : Fr xs L T0 106 d 199 24 [some (rf 73), some (it v1), some (it v2), some (it v3)] [] s (qi P) := by
  refine Fr.ildn (by decide +kernel : zi 199 24 = some (.iload_n 3, 1)) rfl ?_
  refine Fr.aldn (c := 73) (by decide +kernel : zi 199 25 = some (.aload_n 0, 1)) rfl ⟨by omega, by omega⟩ ?_
  refine Fr.gI (c := 72) (ci := 8) (k := 37) (t := 0) 37 (by decide +kernel : zi 199 26 = some (.getfield 299, 3)) (by decide +kernel) (by decide +kernel) (by decide +kernel) (by decide) rfl ?_
  refine Fr.if2 (q := 84) (by decide +kernel : zi 199 29 = some (.if_icmp .ge 55, 3)) (by decide +kernel) (fun g9 => ?_) (fun g9 => ?_)
  · have h := h.1 g9
    refine Fr.aldn (c := 73) (by decide +kernel : zi 199 84 = some (.aload_n 0, 1)) rfl ⟨by omega, by omega⟩ ?_
    refine Fr.callV (y2 := 185) (na := 1) (as := [rf 73]) (rest := []) (by decide +kernel : zi 199 85 = some (.invokevirtual 281, 3)) rfl (by decide +kernel) (by decide +kernel) rfl rfl (zok_V rfl (by decide) (by decide +kernel) (by decide +kernel) (zrecv_c (c := 72) (by decide) (by decide +kernel)) rfl (Nat.le_of_ble_eq_true rfl)) h (fun s1 h => ?_)
    refine Fr.ildn (by decide +kernel : zi 199 88 = some (.iload_n 2, 1)) rfl ?_
    exact Fr.retI (by decide +kernel : zi 199 89 = some (.ireturn, 1)) (by decide +kernel) h
  · have h := h.2 g9
    refine Fr.aldn (c := 73) (by decide +kernel : zi 199 32 = some (.aload_n 0, 1)) rfl ⟨by omega, by omega⟩ ?_
    refine Fr.aldn (c := 73) (by decide +kernel : zi 199 33 = some (.aload_n 0, 1)) rfl ⟨by omega, by omega⟩ ?_
    refine Fr.gR (c := 72) (c2 := 94) (ci := 8) (k := 38) 38 (by decide +kernel : zi 199 34 = some (.getfield 75, 3)) (by decide +kernel) (by decide +kernel) (by decide +kernel) (by decide) rfl (fun q => q (72, 38, 94) (by decide +kernel)) ?_
    refine Fr.ildn (by decide +kernel : zi 199 37 = some (.iload_n 3, 1)) rfl ?_
    obtain ⟨⟨g0, g1⟩, h⟩ := h
    refine Fr.iald (c := 93) (N := 1500) (by decide +kernel : zi 199 38 = some (.iaload, 1)) (by decide +kernel) (by decide) g0 g1 ?_
    refine Fr.callV (y2 := 192) (na := 2) (as := [rf 73, it (s 93 v3)]) (rest := []) (by decide +kernel : zi 199 39 = some (.invokevirtual 302, 3)) rfl (by decide +kernel) (by decide +kernel) rfl rfl (zok_V rfl (by decide) (by decide +kernel) (by decide +kernel) (zrecv_c (c := 72) (by decide) (by decide +kernel)) rfl (Nat.le_of_ble_eq_true rfl)) h (fun s2 h => ?_)
    refine Fr.aldn (c := 73) (by decide +kernel : zi 199 42 = some (.aload_n 0, 1)) rfl ⟨by omega, by omega⟩ ?_
    refine Fr.gR (c := 72) (c2 := 76) (ci := 8) (k := 5) 5 (by decide +kernel : zi 199 43 = some (.getfield 16, 3)) (by decide +kernel) (by decide +kernel) (by decide +kernel) (by decide) rfl (fun q => q (72, 5, 76) (by decide +kernel)) ?_
    refine Fr.ildn (by decide +kernel : zi 199 46 = some (.iload_n 1, 1)) rfl ?_
    obtain ⟨⟨g0, g1⟩, h⟩ := h
    refine Fr.iald (c := 75) (N := 7) (by decide +kernel : zi 199 47 = some (.iaload, 1)) (by decide +kernel) (by decide) g0 g1 ?_
    refine Fr.aldn (c := 73) (by decide +kernel : zi 199 48 = some (.aload_n 0, 1)) rfl ⟨by omega, by omega⟩ ?_
    refine Fr.gR (c := 72) (c2 := 77) (ci := 8) (k := 6) 6 (by decide +kernel : zi 199 49 = some (.getfield 19, 3)) (by decide +kernel) (by decide +kernel) (by decide +kernel) (by decide) rfl (fun q => q (72, 6, 77) (by decide +kernel)) ?_
    refine Fr.ildn (by decide +kernel : zi 199 52 = some (.iload_n 1, 1)) rfl ?_
    obtain ⟨⟨g0, g1⟩, h⟩ := h
    refine Fr.iald (c := 76) (N := 7) (by decide +kernel : zi 199 53 = some (.iaload, 1)) (by decide +kernel) (by decide) g0 g1 ?_
    refine Fr.if2 (q := 78) (by decide +kernel : zi 199 54 = some (.if_icmp .ne 24, 3)) (by decide +kernel) (fun g9 => ?_) (fun g9 => ?_)
    · have h := h.1 g9
      exact h
    · have h := h.2 g9
      refine Fr.ildn (by decide +kernel : zi 199 57 = some (.iload_n 2, 1)) rfl ?_
      refine Fr.if0 (q := 71) (by decide +kernel : zi 199 58 = some (.ifCond .lt 13, 3)) (by decide +kernel) (fun g9 => ?_) (fun g9 => ?_)
      · have h := h.1 g9
        exact h
      · have h := h.2 g9
        refine Fr.aldn (c := 73) (by decide +kernel : zi 199 61 = some (.aload_n 0, 1)) rfl ⟨by omega, by omega⟩ ?_
        refine Fr.gR (c := 72) (c2 := 95) (ci := 8) (k := 39) 39 (by decide +kernel : zi 199 62 = some (.getfield 78, 3)) (by decide +kernel) (by decide +kernel) (by decide +kernel) (by decide) rfl (fun q => q (72, 39, 95) (by decide +kernel)) ?_
        refine Fr.ildn (by decide +kernel : zi 199 65 = some (.iload_n 3, 1)) rfl ?_
        obtain ⟨⟨g0, g1⟩, h⟩ := h
        refine Fr.iald (c := 94) (N := 1500) (by decide +kernel : zi 199 66 = some (.iaload, 1)) (by decide +kernel) (by decide) g0 g1 ?_
        refine Fr.ildn (by decide +kernel : zi 199 67 = some (.iload_n 2, 1)) rfl ?_
        refine Fr.if2 (q := 78) (by decide +kernel : zi 199 68 = some (.if_icmp .ge 10, 3)) (by decide +kernel) (fun g9 => ?_) (fun g9 => ?_)
        · have h := h.1 g9
          exact h
        · have h := h.2 g9
          exact h
theorem f199_71 {xs : Nat → Int} {L : Nat} {d : Nat} {v1 : Int} {v2 : Int} {v3 : Int} {s : Pl} {P : Int → Pl → Prop} (h : (0 ≤ v3 ∧ v3 < 1500) ∧ Fr xs L T0 106 d 199 78 [some (rf 73), some (it v1), some (it (s 94 v3)), some (it v3)] [] s (qi P)) : Fr xs L T0 106 d 199 71 [some (rf 73), some (it v1), some (it v2), some (it v3)] [] s (qi P) := by
  refine Fr.aldn (c := 73) (by decide +kernel : zi 199 71 = some (.aload_n 0, 1)) rfl ⟨by omega, by omega⟩ ?_
  refine Fr.gR (c := 72) (c2 := 95) (ci := 8) (k := 39) 39 (by decide +kernel : zi 199 72 = some (.getfield 78, 3)) (by decide +kernel) (by decide +kernel) (by decide +kernel) (by decide) rfl (fun q => q (72, 39, 95) (by decide +kernel)) ?_
  refine Fr.ildn (by decide +kernel : zi 199 75 = some (.iload_n 3, 1)) rfl ?_
  obtain ⟨⟨g0, g1⟩, h⟩ := h
  refine Fr.iald (c := 94) (N := 1500) (by decide +kernel : zi 199 76 = some (.iaload, 1)) (by decide +kernel) (by decide) g0 g1 ?_
  refine Fr.istn (lv2 := [some (rf 73), some (it v1), some (it (s 94 v3)), some (it v3)]) (by decide +kernel : zi 199 77 = some (.istore_n 2, 1)) (Nat.le_of_ble_eq_true rfl) rfl ?_
  exact h
theorem f199_78 {xs : Nat → Int} {L : Nat} {d : Nat} {v1 : Int} {v2 : Int} {v3 : Int} {s : Pl} {P : Int → Pl → Prop} (h : Fr xs L T0 106 d 199 24 [some (rf 73), some (it v1), some (it v2), some (it (zw (v3 + 1)))] [] s (qi P)) : Fr xs L T0 106 d 199 78 [some (rf 73), some (it v1), some (it v2), some (it v3)] [] s (qi P) := by
  refine Fr.iinc (lv2 := [some (rf 73), some (it v1), some (it v2), some (it (zw (v3 + 1)))]) (by decide +kernel : zi 199 78 = some (.iinc 3 1, 3)) (Nat.le_of_ble_eq_true rfl) rfl rfl ?_
  refine Fr.goto (q := 24) (by decide +kernel : zi 199 81 = some (.goto (-57), 3)) (by decide +kernel) ?_
  exact h
-- 200 X8_never
theorem f200_0 {xs : Nat → Int} {L : Nat} {d : Nat} {v1 : Int} {s : Pl} {P : Int → Pl → Prop} (h : Ev xs L T0 106 d 132 [it v1, it 0, it 1] s (qi fun r2 s1 => ((¬ r2 = 0 → Ev xs L T0 106 d 195 [rf 73, it 0] s1 (qv fun s3 => ((¬ v1 = 1 → Ev xs L T0 106 d 184 [rf 73] s3 (qv fun s4 => Fr xs L T0 106 d 200 35 [some (rf 73), some (it v1), some (it 0), some (it 0)] [] s4 (qi P))) ∧ (¬ (¬ v1 = 1) → P (s3 72 37) s3)))) ∧ (¬ (¬ r2 = 0) → P (-2) s1)))) : Fr xs L T0 106 d 200 0 [some (rf 73), some (it v1), none, none] [] s (qi P) := by
  refine Fr.ildn (by decide +kernel : zi 200 0 = some (.iload_n 1, 1)) rfl ?_
  refine Fr.iconst (by decide +kernel : zi 200 1 = some (.iconst 0, 1)) (by decide) ?_
  refine Fr.iconst (by decide +kernel : zi 200 2 = some (.iconst 1, 1)) (by decide) ?_
  refine Fr.callI (y2 := 132) (na := 3) (as := [it v1, it 0, it 1]) (rest := []) (by decide +kernel : zi 200 3 = some (.invokestatic 118, 3)) rfl (by decide +kernel) (by decide +kernel) rfl rfl (zok_S rfl (by decide) (by decide +kernel) rfl (Nat.le_of_ble_eq_true rfl)) h (fun r2 s1 h => ?_)
  refine Fr.if0 (q := 12) (by decide +kernel : zi 200 6 = some (.ifCond .ne 6, 3)) (by decide +kernel) (fun g9 => ?_) (fun g9 => ?_)
  · have h := h.1 g9
    refine Fr.aldn (c := 73) (by decide +kernel : zi 200 12 = some (.aload_n 0, 1)) rfl ⟨by omega, by omega⟩ ?_
    refine Fr.iconst (by decide +kernel : zi 200 13 = some (.iconst 0, 1)) (by decide) ?_
    refine Fr.callV (y2 := 195) (na := 2) (as := [rf 73, it 0]) (rest := []) (by decide +kernel : zi 200 14 = some (.invokevirtual 311, 3)) rfl (by decide +kernel) (by decide +kernel) rfl rfl (zok_V rfl (by decide) (by decide +kernel) (by decide +kernel) (zrecv_c (c := 72) (by decide) (by decide +kernel)) rfl (Nat.le_of_ble_eq_true rfl)) h (fun s3 h => ?_)
    refine Fr.ildn (by decide +kernel : zi 200 17 = some (.iload_n 1, 1)) rfl ?_
    refine Fr.iconst (by decide +kernel : zi 200 18 = some (.iconst 1, 1)) (by decide) ?_
    refine Fr.if2 (q := 27) (by decide +kernel : zi 200 19 = some (.if_icmp .ne 8, 3)) (by decide +kernel) (fun g9 => ?_) (fun g9 => ?_)
    · have h := h.1 g9
      refine Fr.aldn (c := 73) (by decide +kernel : zi 200 27 = some (.aload_n 0, 1)) rfl ⟨by omega, by omega⟩ ?_
      refine Fr.callV (y2 := 184) (na := 1) (as := [rf 73]) (rest := []) (by decide +kernel : zi 200 28 = some (.invokevirtual 275, 3)) rfl (by decide +kernel) (by decide +kernel) rfl rfl (zok_V rfl (by decide) (by decide +kernel) (by decide +kernel) (zrecv_c (c := 72) (by decide) (by decide +kernel)) rfl (Nat.le_of_ble_eq_true rfl)) h (fun s4 h => ?_)
      refine Fr.iconst (by decide +kernel : zi 200 31 = some (.iconst 0, 1)) (by decide) ?_
      refine Fr.istn (lv2 := [some (rf 73), some (it v1), some (it 0), none]) (by decide +kernel : zi 200 32 = some (.istore_n 2, 1)) (Nat.le_of_ble_eq_true rfl) rfl ?_
      refine Fr.iconst (by decide +kernel : zi 200 33 = some (.iconst 0, 1)) (by decide) ?_
      refine Fr.istn (lv2 := [some (rf 73), some (it v1), some (it 0), some (it 0)]) (by decide +kernel : zi 200 34 = some (.istore_n 3, 1)) (Nat.le_of_ble_eq_true rfl) rfl ?_
      exact h
    · have h := h.2 g9
      refine Fr.aldn (c := 73) (by decide +kernel : zi 200 22 = some (.aload_n 0, 1)) rfl ⟨by omega, by omega⟩ ?_
      refine Fr.gI (c := 72) (ci := 8) (k := 37) (t := 0) 37 (by decide +kernel : zi 200 23 = some (.getfield 299, 3)) (by decide +kernel) (by decide +kernel) (by decide +kernel) (by decide) rfl ?_
      exact Fr.retI (by decide +kernel : zi 200 26 = some (.ireturn, 1)) (by decide +kernel) h
  · have h := h.2 g9
    refine Fr.bipush (by decide +kernel : zi 200 9 = some (.bipush (-2), 2)) (by decide) ?_
    exact Fr.retI (by decide +kernel : zi 200 11 = some (.ireturn, 1)) (by decide +kernel) h
theorem e200 {xs : Nat → Int} {L : Nat} {d : Nat} {v1 : Int} {s : Pl} {Q : Option AV → Pl → Prop} (hd : 1 ≤ d) (k : Fr xs L T0 106 (d - 1) 200 0 [some (rf 73), some (it v1), none, none] [] s Q) : Ev xs L T0 106 d 200 [rf 73, it v1] s Q := Ev.of (by decide) _ rfl hd k
theorem f200_35 {xs : Nat → Int} {L : Nat} {d : Nat} {v1 : Int} {v2 : Int} {v3 : Int} {s : Pl} {P : Int → Pl → Prop} (h : ((s 72 37 ≤ v3 → Ev xs L T0 106 d 185 [rf 73] s (qv fun s1 => P (zand (zw ((zshl 1 (s1 72 3)) - 1)) (zxor v2 (-1))) s1)) ∧ (¬ (s 72 37 ≤ v3) → (0 ≤ v3 ∧ v3 < 1500) ∧ Ev xs L T0 106 d 192 [rf 73, it (s 93 v3)] s (qv fun s2 => Ev xs L T0 106 d 181 [rf 73] s2 (qi fun r4 s3 => Fr xs L T0 106 d 200 35 [some (rf 73), some (it v1), some (it (zor v2 r4)), some (it (zw (v3 + 1)))] [] s3 (qi P)))))) : Fr xs L T0 106 d 200 35 [some (rf 73), some (it v1), some (it v2), some (it v3)] [] s (qi P) := by
  refine Fr.ildn (by decide +kernel : zi 200 35 = some (.iload_n 3, 1)) rfl ?_
  refine Fr.aldn (c := 73) (by decide +kernel : zi 200 36 = some (.aload_n 0, 1)) rfl ⟨by omega, by omega⟩ ?_
  refine Fr.gI (c := 72) (ci := 8) (k := 37) (t := 0) 37 (by decide +kernel : zi 200 37 = some (.getfield 299, 3)) (by decide +kernel) (by decide +kernel) (by decide +kernel) (by decide) rfl ?_
  refine Fr.if2 (q := 66) (by decide +kernel : zi 200 40 = some (.if_icmp .ge 26, 3)) (by decide +kernel) (fun g9 => ?_) (fun g9 => ?_)
  · have h := h.1 g9
    refine Fr.aldn (c := 73) (by decide +kernel : zi 200 66 = some (.aload_n 0, 1)) rfl ⟨by omega, by omega⟩ ?_
    refine Fr.callV (y2 := 185) (na := 1) (as := [rf 73]) (rest := []) (by decide +kernel : zi 200 67 = some (.invokevirtual 281, 3)) rfl (by decide +kernel) (by decide +kernel) rfl rfl (zok_V rfl (by decide) (by decide +kernel) (by decide +kernel) (zrecv_c (c := 72) (by decide) (by decide +kernel)) rfl (Nat.le_of_ble_eq_true rfl)) h (fun s1 h => ?_)
    refine Fr.iconst (by decide +kernel : zi 200 70 = some (.iconst 1, 1)) (by decide) ?_
    refine Fr.aldn (c := 73) (by decide +kernel : zi 200 71 = some (.aload_n 0, 1)) rfl ⟨by omega, by omega⟩ ?_
    refine Fr.gI (c := 72) (ci := 8) (k := 3) (t := 0) 3 (by decide +kernel : zi 200 72 = some (.getfield 122, 3)) (by decide +kernel) (by decide +kernel) (by decide +kernel) (by decide) rfl ?_
    refine Fr.ishl (by decide +kernel : zi 200 75 = some (.ishl, 1)) ?_
    refine Fr.iconst (by decide +kernel : zi 200 76 = some (.iconst 1, 1)) (by decide) ?_
    refine Fr.isub (by decide +kernel : zi 200 77 = some (.isub, 1)) ?_
    refine Fr.ildn (by decide +kernel : zi 200 78 = some (.iload_n 2, 1)) rfl ?_
    refine Fr.iconst (by decide +kernel : zi 200 79 = some (.iconst (-1), 1)) (by decide) ?_
    refine Fr.ixor (by decide +kernel : zi 200 80 = some (.ixor, 1)) ?_
    refine Fr.iand (by decide +kernel : zi 200 81 = some (.iand, 1)) ?_
    exact Fr.retI (by decide +kernel : zi 200 82 = some (.ireturn, 1)) (by decide +kernel) h
  · have h := h.2 g9
    refine Fr.aldn (c := 73) (by decide +kernel : zi 200 43 = some (.aload_n 0, 1)) rfl ⟨by omega, by omega⟩ ?_
    refine Fr.aldn (c := 73) (by decide +kernel : zi 200 44 = some (.aload_n 0, 1)) rfl ⟨by omega, by omega⟩ ?_
    refine Fr.gR (c := 72) (c2 := 94) (ci := 8) (k := 38) 38 (by decide +kernel : zi 200 45 = some (.getfield 75, 3)) (by decide +kernel) (by decide +kernel) (by decide +kernel) (by decide) rfl (fun q => q (72, 38, 94) (by decide +kernel)) ?_
    refine Fr.ildn (by decide +kernel : zi 200 48 = some (.iload_n 3, 1)) rfl ?_
    obtain ⟨⟨g0, g1⟩, h⟩ := h
    refine Fr.iald (c := 93) (N := 1500) (by decide +kernel : zi 200 49 = some (.iaload, 1)) (by decide +kernel) (by decide) g0 g1 ?_
    refine Fr.callV (y2 := 192) (na := 2) (as := [rf 73, it (s 93 v3)]) (rest := []) (by decide +kernel : zi 200 50 = some (.invokevirtual 302, 3)) rfl (by decide +kernel) (by decide +kernel) rfl rfl (zok_V rfl (by decide) (by decide +kernel) (by decide +kernel) (zrecv_c (c := 72) (by decide) (by decide +kernel)) rfl (Nat.le_of_ble_eq_true rfl)) h (fun s2 h => ?_)
    refine Fr.ildn (by decide +kernel : zi 200 53 = some (.iload_n 2, 1)) rfl ?_
    refine Fr.aldn (c := 73) (by decide +kernel : zi 200 54 = some (.aload_n 0, 1)) rfl ⟨by omega, by omega⟩ ?_
    refine Fr.callI (y2 := 181) (na := 1) (as := [rf 73]) (rest := [it v2]) (by decide +kernel : zi 200 55 = some (.invokevirtual 293, 3)) rfl (by decide +kernel) (by decide +kernel) rfl rfl (zok_V rfl (by decide) (by decide +kernel) (by decide +kernel) (zrecv_c (c := 72) (by decide) (by decide +kernel)) rfl (Nat.le_of_ble_eq_true rfl)) h (fun r4 s3 h => ?_)
    refine Fr.ior (by decide +kernel : zi 200 58 = some (.ior, 1)) ?_
    refine Fr.istn (lv2 := [some (rf 73), some (it v1), some (it (zor v2 r4)), some (it v3)]) (by decide +kernel : zi 200 59 = some (.istore_n 2, 1)) (Nat.le_of_ble_eq_true rfl) rfl ?_
    refine Fr.iinc (lv2 := [some (rf 73), some (it v1), some (it (zor v2 r4)), some (it (zw (v3 + 1)))]) (by decide +kernel : zi 200 60 = some (.iinc 3 1, 3)) (Nat.le_of_ble_eq_true rfl) rfl rfl ?_
    refine Fr.goto (q := 35) (by decide +kernel : zi 200 63 = some (.goto (-28), 3)) (by decide +kernel) ?_
    exact h
-- 201 X8_gainIn
theorem f201_0 {xs : Nat → Int} {L : Nat} {d : Nat} {v1 : Int} {s : Pl} {P : Int → Pl → Prop} (h : Fr xs L T0 106 d 201 4 [some (rf 73), some (it v1), some (it 0), some (it 0)] [] s (qi P)) : Fr xs L T0 106 d 201 0 [some (rf 73), some (it v1), none, none] [] s (qi P) := by
  refine Fr.iconst (by decide +kernel : zi 201 0 = some (.iconst 0, 1)) (by decide) ?_
  refine Fr.istn (lv2 := [some (rf 73), some (it v1), some (it 0), none]) (by decide +kernel : zi 201 1 = some (.istore_n 2, 1)) (Nat.le_of_ble_eq_true rfl) rfl ?_
  refine Fr.iconst (by decide +kernel : zi 201 2 = some (.iconst 0, 1)) (by decide) ?_
  refine Fr.istn (lv2 := [some (rf 73), some (it v1), some (it 0), some (it 0)]) (by decide +kernel : zi 201 3 = some (.istore_n 3, 1)) (Nat.le_of_ble_eq_true rfl) rfl ?_
  exact h
theorem e201 {xs : Nat → Int} {L : Nat} {d : Nat} {v1 : Int} {s : Pl} {Q : Option AV → Pl → Prop} (hd : 1 ≤ d) (k : Fr xs L T0 106 (d - 1) 201 0 [some (rf 73), some (it v1), none, none] [] s Q) : Ev xs L T0 106 d 201 [rf 73, it v1] s Q := Ev.of (by decide) _ rfl hd k
theorem f201_4 {xs : Nat → Int} {L : Nat} {d : Nat} {v1 : Int} {v2 : Int} {v3 : Int} {s : Pl} {P : Int → Pl → Prop} (h : ((s 72 3 ≤ v3 → P v2 s) ∧ (¬ (s 72 3 ≤ v3) → (0 ≤ v3 ∧ v3 < 7) ∧ (0 ≤ v3 ∧ v3 < 7) ∧ ((¬ s 75 v3 = s 76 v3 → Fr xs L T0 106 d 201 36 [some (rf 73), some (it v1), some (it v2), some (it v3)] [] s (qi P)) ∧ (¬ (¬ s 75 v3 = s 76 v3) → Ev xs L T0 106 d 166 [rf 73, it v3, it v1] s (qi fun r2 s1 => Fr xs L T0 106 d 201 36 [some (rf 73), some (it v1), some (it (zw (v2 + r2))), some (it v3)] [] s1 (qi P))))))) : Fr xs L T0 106 d 201 4 [some (rf 73), some (it v1), some (it v2), some (it v3)] [] s (qi P) := by
  refine Fr.ildn (by decide +kernel : zi 201 4 = some (.iload_n 3, 1)) rfl ?_
  refine Fr.aldn (c := 73) (by decide +kernel : zi 201 5 = some (.aload_n 0, 1)) rfl ⟨by omega, by omega⟩ ?_
  refine Fr.gI (c := 72) (ci := 8) (k := 3) (t := 0) 3 (by decide +kernel : zi 201 6 = some (.getfield 122, 3)) (by decide +kernel) (by decide +kernel) (by decide +kernel) (by decide) rfl ?_
  refine Fr.if2 (q := 42) (by decide +kernel : zi 201 9 = some (.if_icmp .ge 33, 3)) (by decide +kernel) (fun g9 => ?_) (fun g9 => ?_)
  · have h := h.1 g9
    refine Fr.ildn (by decide +kernel : zi 201 42 = some (.iload_n 2, 1)) rfl ?_
    exact Fr.retI (by decide +kernel : zi 201 43 = some (.ireturn, 1)) (by decide +kernel) h
  · have h := h.2 g9
    refine Fr.aldn (c := 73) (by decide +kernel : zi 201 12 = some (.aload_n 0, 1)) rfl ⟨by omega, by omega⟩ ?_
    refine Fr.gR (c := 72) (c2 := 76) (ci := 8) (k := 5) 5 (by decide +kernel : zi 201 13 = some (.getfield 16, 3)) (by decide +kernel) (by decide +kernel) (by decide +kernel) (by decide) rfl (fun q => q (72, 5, 76) (by decide +kernel)) ?_
    refine Fr.ildn (by decide +kernel : zi 201 16 = some (.iload_n 3, 1)) rfl ?_
    obtain ⟨⟨g0, g1⟩, h⟩ := h
    refine Fr.iald (c := 75) (N := 7) (by decide +kernel : zi 201 17 = some (.iaload, 1)) (by decide +kernel) (by decide) g0 g1 ?_
    refine Fr.aldn (c := 73) (by decide +kernel : zi 201 18 = some (.aload_n 0, 1)) rfl ⟨by omega, by omega⟩ ?_
    refine Fr.gR (c := 72) (c2 := 77) (ci := 8) (k := 6) 6 (by decide +kernel : zi 201 19 = some (.getfield 19, 3)) (by decide +kernel) (by decide +kernel) (by decide +kernel) (by decide) rfl (fun q => q (72, 6, 77) (by decide +kernel)) ?_
    refine Fr.ildn (by decide +kernel : zi 201 22 = some (.iload_n 3, 1)) rfl ?_
    obtain ⟨⟨g0, g1⟩, h⟩ := h
    refine Fr.iald (c := 76) (N := 7) (by decide +kernel : zi 201 23 = some (.iaload, 1)) (by decide +kernel) (by decide) g0 g1 ?_
    refine Fr.if2 (q := 36) (by decide +kernel : zi 201 24 = some (.if_icmp .ne 12, 3)) (by decide +kernel) (fun g9 => ?_) (fun g9 => ?_)
    · have h := h.1 g9
      exact h
    · have h := h.2 g9
      refine Fr.ildn (by decide +kernel : zi 201 27 = some (.iload_n 2, 1)) rfl ?_
      refine Fr.aldn (c := 73) (by decide +kernel : zi 201 28 = some (.aload_n 0, 1)) rfl ⟨by omega, by omega⟩ ?_
      refine Fr.ildn (by decide +kernel : zi 201 29 = some (.iload_n 3, 1)) rfl ?_
      refine Fr.ildn (by decide +kernel : zi 201 30 = some (.iload_n 1, 1)) rfl ?_
      refine Fr.callI (y2 := 166) (na := 3) (as := [rf 73, it v3, it v1]) (rest := [it v2]) (by decide +kernel : zi 201 31 = some (.invokevirtual 247, 3)) rfl (by decide +kernel) (by decide +kernel) rfl rfl (zok_V rfl (by decide) (by decide +kernel) (by decide +kernel) (zrecv_c (c := 72) (by decide) (by decide +kernel)) rfl (Nat.le_of_ble_eq_true rfl)) h (fun r2 s1 h => ?_)
      refine Fr.iadd (by decide +kernel : zi 201 34 = some (.iadd, 1)) ?_
      refine Fr.istn (lv2 := [some (rf 73), some (it v1), some (it (zw (v2 + r2))), some (it v3)]) (by decide +kernel : zi 201 35 = some (.istore_n 2, 1)) (Nat.le_of_ble_eq_true rfl) rfl ?_
      exact h
theorem f201_36 {xs : Nat → Int} {L : Nat} {d : Nat} {v1 : Int} {v2 : Int} {v3 : Int} {s : Pl} {P : Int → Pl → Prop} (h : Fr xs L T0 106 d 201 4 [some (rf 73), some (it v1), some (it v2), some (it (zw (v3 + 1)))] [] s (qi P)) : Fr xs L T0 106 d 201 36 [some (rf 73), some (it v1), some (it v2), some (it v3)] [] s (qi P) := by
  refine Fr.iinc (lv2 := [some (rf 73), some (it v1), some (it v2), some (it (zw (v3 + 1)))]) (by decide +kernel : zi 201 36 = some (.iinc 3 1, 3)) (Nat.le_of_ble_eq_true rfl) rfl rfl ?_
  refine Fr.goto (q := 4) (by decide +kernel : zi 201 39 = some (.goto (-35), 3)) (by decide +kernel) ?_
  exact h
-- 202 X8_best
theorem f202_0 {xs : Nat → Int} {L : Nat} {d : Nat} {v1 : Int} {v2 : Int} {s : Pl} {P : Int → Pl → Prop} (h : Ev xs L T0 106 d 132 [it v1, it 0, it 400] s (qi fun r2 s1 => ((r2 = 0 → P (-2) s1) ∧ (¬ (r2 = 0) → Ev xs L T0 106 d 132 [it v2, it 0, it 1] s1 (qi fun r4 s3 => ((¬ r4 = 0 → Ev xs L T0 106 d 195 [rf 73, it 0] s3 (qv fun s5 => Ev xs L T0 106 d 184 [rf 73] s5 (qv fun s6 => Fr xs L T0 106 d 202 40 [some (rf 73), some (it v1), some (it v2), some (it (-1)), some (it 0), some (it 0), none] [] s6 (qi P)))) ∧ (¬ (¬ r4 = 0) → P (-2) s3))))))) : Fr xs L T0 106 d 202 0 [some (rf 73), some (it v1), some (it v2), none, none, none, none] [] s (qi P) := by
  refine Fr.ildn (by decide +kernel : zi 202 0 = some (.iload_n 1, 1)) rfl ?_
  refine Fr.iconst (by decide +kernel : zi 202 1 = some (.iconst 0, 1)) (by decide) ?_
  refine Fr.sipush (by decide +kernel : zi 202 2 = some (.sipush 400, 3)) (by decide) ?_
  refine Fr.callI (y2 := 132) (na := 3) (as := [it v1, it 0, it 400]) (rest := []) (by decide +kernel : zi 202 5 = some (.invokestatic 118, 3)) rfl (by decide +kernel) (by decide +kernel) rfl rfl (zok_S rfl (by decide) (by decide +kernel) rfl (Nat.le_of_ble_eq_true rfl)) h (fun r2 s1 h => ?_)
  refine Fr.if0 (q := 20) (by decide +kernel : zi 202 8 = some (.ifCond .eq 12, 3)) (by decide +kernel) (fun g9 => ?_) (fun g9 => ?_)
  · have h := h.1 g9
    refine Fr.bipush (by decide +kernel : zi 202 20 = some (.bipush (-2), 2)) (by decide) ?_
    exact Fr.retI (by decide +kernel : zi 202 22 = some (.ireturn, 1)) (by decide +kernel) h
  · have h := h.2 g9
    refine Fr.ildn (by decide +kernel : zi 202 11 = some (.iload_n 2, 1)) rfl ?_
    refine Fr.iconst (by decide +kernel : zi 202 12 = some (.iconst 0, 1)) (by decide) ?_
    refine Fr.iconst (by decide +kernel : zi 202 13 = some (.iconst 1, 1)) (by decide) ?_
    refine Fr.callI (y2 := 132) (na := 3) (as := [it v2, it 0, it 1]) (rest := []) (by decide +kernel : zi 202 14 = some (.invokestatic 118, 3)) rfl (by decide +kernel) (by decide +kernel) rfl rfl (zok_S rfl (by decide) (by decide +kernel) rfl (Nat.le_of_ble_eq_true rfl)) h (fun r4 s3 h => ?_)
    refine Fr.if0 (q := 23) (by decide +kernel : zi 202 17 = some (.ifCond .ne 6, 3)) (by decide +kernel) (fun g9 => ?_) (fun g9 => ?_)
    · have h := h.1 g9
      refine Fr.aldn (c := 73) (by decide +kernel : zi 202 23 = some (.aload_n 0, 1)) rfl ⟨by omega, by omega⟩ ?_
      refine Fr.iconst (by decide +kernel : zi 202 24 = some (.iconst 0, 1)) (by decide) ?_
      refine Fr.callV (y2 := 195) (na := 2) (as := [rf 73, it 0]) (rest := []) (by decide +kernel : zi 202 25 = some (.invokevirtual 311, 3)) rfl (by decide +kernel) (by decide +kernel) rfl rfl (zok_V rfl (by decide) (by decide +kernel) (by decide +kernel) (zrecv_c (c := 72) (by decide) (by decide +kernel)) rfl (Nat.le_of_ble_eq_true rfl)) h (fun s5 h => ?_)
      refine Fr.aldn (c := 73) (by decide +kernel : zi 202 28 = some (.aload_n 0, 1)) rfl ⟨by omega, by omega⟩ ?_
      refine Fr.callV (y2 := 184) (na := 1) (as := [rf 73]) (rest := []) (by decide +kernel : zi 202 29 = some (.invokevirtual 275, 3)) rfl (by decide +kernel) (by decide +kernel) rfl rfl (zok_V rfl (by decide) (by decide +kernel) (by decide +kernel) (zrecv_c (c := 72) (by decide) (by decide +kernel)) rfl (Nat.le_of_ble_eq_true rfl)) h (fun s6 h => ?_)
      refine Fr.iconst (by decide +kernel : zi 202 32 = some (.iconst (-1), 1)) (by decide) ?_
      refine Fr.istn (lv2 := [some (rf 73), some (it v1), some (it v2), some (it (-1)), none, none, none]) (by decide +kernel : zi 202 33 = some (.istore_n 3, 1)) (Nat.le_of_ble_eq_true rfl) rfl ?_
      refine Fr.iconst (by decide +kernel : zi 202 34 = some (.iconst 0, 1)) (by decide) ?_
      refine Fr.ist (lv2 := [some (rf 73), some (it v1), some (it v2), some (it (-1)), some (it 0), none, none]) (by decide +kernel : zi 202 35 = some (.istore 4, 2)) (Nat.le_of_ble_eq_true rfl) rfl ?_
      refine Fr.iconst (by decide +kernel : zi 202 37 = some (.iconst 0, 1)) (by decide) ?_
      refine Fr.ist (lv2 := [some (rf 73), some (it v1), some (it v2), some (it (-1)), some (it 0), some (it 0), none]) (by decide +kernel : zi 202 38 = some (.istore 5, 2)) (Nat.le_of_ble_eq_true rfl) rfl ?_
      exact h
    · have h := h.2 g9
      refine Fr.bipush (by decide +kernel : zi 202 20 = some (.bipush (-2), 2)) (by decide) ?_
      exact Fr.retI (by decide +kernel : zi 202 22 = some (.ireturn, 1)) (by decide +kernel) h
theorem e202 {xs : Nat → Int} {L : Nat} {d : Nat} {v1 : Int} {v2 : Int} {s : Pl} {Q : Option AV → Pl → Prop} (hd : 1 ≤ d) (k : Fr xs L T0 106 (d - 1) 202 0 [some (rf 73), some (it v1), some (it v2), none, none, none, none] [] s Q) : Ev xs L T0 106 d 202 [rf 73, it v1, it v2] s Q := Ev.of (by decide) _ rfl hd k
theorem f202_40 {xs : Nat → Int} {L : Nat} {d : Nat} {v1 : Int} {v2 : Int} {v3 : Int} {v4 : Int} {v5 : Int} {w6 : Option AV} {s : Pl} {P : Int → Pl → Prop} (h : ((s 72 37 ≤ v5 → Ev xs L T0 106 d 185 [rf 73] s (qv fun s1 => ((¬ v2 = 0 → P v4 s1) ∧ (¬ (¬ v2 = 0) → P v3 s1)))) ∧ (¬ (s 72 37 ≤ v5) → (0 ≤ v5 ∧ v5 < 1500) ∧ ((s 94 v5 ≤ v1 → (0 ≤ v5 ∧ v5 < 1500) ∧ Ev xs L T0 106 d 192 [rf 73, it (s 93 v5)] s (qv fun s2 => (0 ≤ v5 ∧ v5 < 1500) ∧ Ev xs L T0 106 d 201 [rf 73, it (s2 94 v5)] s2 (qi fun r4 s3 => ((r4 < v3 → Fr xs L T0 106 d 202 126 [some (rf 73), some (it v1), some (it v2), some (it v3), some (it v4), some (it v5), some (it r4)] [] s3 (qi P)) ∧ (¬ (r4 < v3) → ((¬ r4 = v3 → Fr xs L T0 106 d 202 114 [some (rf 73), some (it v1), some (it v2), some (it v3), some (it v4), some (it v5), some (it r4)] [] s3 (qi P)) ∧ (¬ (¬ r4 = v3) → (0 ≤ v5 ∧ v5 < 1500) ∧ ((s3 94 v5 < v4 → Fr xs L T0 106 d 202 114 [some (rf 73), some (it v1), some (it v2), some (it v3), some (it v4), some (it v5), some (it r4)] [] s3 (qi P)) ∧ (¬ (s3 94 v5 < v4) → Fr xs L T0 106 d 202 126 [some (rf 73), some (it v1), some (it v2), some (it v3), some (it v4), some (it v5), some (it r4)] [] s3 (qi P)))))))))) ∧ (¬ (s 94 v5 ≤ v1) → Fr xs L T0 106 d 202 126 [some (rf 73), some (it v1), some (it v2), some (it v3), some (it v4), some (it v5), w6] [] s (qi P)))))) : Fr xs L T0 106 d 202 40 [some (rf 73), some (it v1), some (it v2), some (it v3), some (it v4), some (it v5), w6] [] s (qi P) := by
  refine Fr.ild (by decide +kernel : zi 202 40 = some (.iload 5, 2)) rfl ?_
  refine Fr.aldn (c := 73) (by decide +kernel : zi 202 42 = some (.aload_n 0, 1)) rfl ⟨by omega, by omega⟩ ?_
  refine Fr.gI (c := 72) (ci := 8) (k := 37) (t := 0) 37 (by decide +kernel : zi 202 43 = some (.getfield 299, 3)) (by decide +kernel) (by decide +kernel) (by decide +kernel) (by decide) rfl ?_
  refine Fr.if2 (q := 132) (by decide +kernel : zi 202 46 = some (.if_icmp .ge 86, 3)) (by decide +kernel) (fun g9 => ?_) (fun g9 => ?_)
  · have h := h.1 g9
    refine Fr.aldn (c := 73) (by decide +kernel : zi 202 132 = some (.aload_n 0, 1)) rfl ⟨by omega, by omega⟩ ?_
    refine Fr.callV (y2 := 185) (na := 1) (as := [rf 73]) (rest := []) (by decide +kernel : zi 202 133 = some (.invokevirtual 281, 3)) rfl (by decide +kernel) (by decide +kernel) rfl rfl (zok_V rfl (by decide) (by decide +kernel) (by decide +kernel) (zrecv_c (c := 72) (by decide) (by decide +kernel)) rfl (Nat.le_of_ble_eq_true rfl)) h (fun s1 h => ?_)
    refine Fr.ildn (by decide +kernel : zi 202 136 = some (.iload_n 2, 1)) rfl ?_
    refine Fr.if0 (q := 144) (by decide +kernel : zi 202 137 = some (.ifCond .ne 7, 3)) (by decide +kernel) (fun g9 => ?_) (fun g9 => ?_)
    · have h := h.1 g9
      refine Fr.ild (by decide +kernel : zi 202 144 = some (.iload 4, 2)) rfl ?_
      exact Fr.retI (by decide +kernel : zi 202 146 = some (.ireturn, 1)) (by decide +kernel) h
    · have h := h.2 g9
      refine Fr.ildn (by decide +kernel : zi 202 140 = some (.iload_n 3, 1)) rfl ?_
      refine Fr.goto (q := 146) (by decide +kernel : zi 202 141 = some (.goto 5, 3)) (by decide +kernel) ?_
      exact Fr.retI (by decide +kernel : zi 202 146 = some (.ireturn, 1)) (by decide +kernel) h
  · have h := h.2 g9
    refine Fr.aldn (c := 73) (by decide +kernel : zi 202 49 = some (.aload_n 0, 1)) rfl ⟨by omega, by omega⟩ ?_
    refine Fr.gR (c := 72) (c2 := 95) (ci := 8) (k := 39) 39 (by decide +kernel : zi 202 50 = some (.getfield 78, 3)) (by decide +kernel) (by decide +kernel) (by decide +kernel) (by decide) rfl (fun q => q (72, 39, 95) (by decide +kernel)) ?_
    refine Fr.ild (by decide +kernel : zi 202 53 = some (.iload 5, 2)) rfl ?_
    obtain ⟨⟨g0, g1⟩, h⟩ := h
    refine Fr.iald (c := 94) (N := 1500) (by decide +kernel : zi 202 55 = some (.iaload, 1)) (by decide +kernel) (by decide) g0 g1 ?_
    refine Fr.ildn (by decide +kernel : zi 202 56 = some (.iload_n 1, 1)) rfl ?_
    refine Fr.if2 (q := 63) (by decide +kernel : zi 202 57 = some (.if_icmp .le 6, 3)) (by decide +kernel) (fun g9 => ?_) (fun g9 => ?_)
    · have h := h.1 g9
      refine Fr.aldn (c := 73) (by decide +kernel : zi 202 63 = some (.aload_n 0, 1)) rfl ⟨by omega, by omega⟩ ?_
      refine Fr.aldn (c := 73) (by decide +kernel : zi 202 64 = some (.aload_n 0, 1)) rfl ⟨by omega, by omega⟩ ?_
      refine Fr.gR (c := 72) (c2 := 94) (ci := 8) (k := 38) 38 (by decide +kernel : zi 202 65 = some (.getfield 75, 3)) (by decide +kernel) (by decide +kernel) (by decide +kernel) (by decide) rfl (fun q => q (72, 38, 94) (by decide +kernel)) ?_
      refine Fr.ild (by decide +kernel : zi 202 68 = some (.iload 5, 2)) rfl ?_
      obtain ⟨⟨g0, g1⟩, h⟩ := h
      refine Fr.iald (c := 93) (N := 1500) (by decide +kernel : zi 202 70 = some (.iaload, 1)) (by decide +kernel) (by decide) g0 g1 ?_
      refine Fr.callV (y2 := 192) (na := 2) (as := [rf 73, it (s 93 v5)]) (rest := []) (by decide +kernel : zi 202 71 = some (.invokevirtual 302, 3)) rfl (by decide +kernel) (by decide +kernel) rfl rfl (zok_V rfl (by decide) (by decide +kernel) (by decide +kernel) (zrecv_c (c := 72) (by decide) (by decide +kernel)) rfl (Nat.le_of_ble_eq_true rfl)) h (fun s2 h => ?_)
      refine Fr.aldn (c := 73) (by decide +kernel : zi 202 74 = some (.aload_n 0, 1)) rfl ⟨by omega, by omega⟩ ?_
      refine Fr.aldn (c := 73) (by decide +kernel : zi 202 75 = some (.aload_n 0, 1)) rfl ⟨by omega, by omega⟩ ?_
      refine Fr.gR (c := 72) (c2 := 95) (ci := 8) (k := 39) 39 (by decide +kernel : zi 202 76 = some (.getfield 78, 3)) (by decide +kernel) (by decide +kernel) (by decide +kernel) (by decide) rfl (fun q => q (72, 39, 95) (by decide +kernel)) ?_
      refine Fr.ild (by decide +kernel : zi 202 79 = some (.iload 5, 2)) rfl ?_
      obtain ⟨⟨g0, g1⟩, h⟩ := h
      refine Fr.iald (c := 94) (N := 1500) (by decide +kernel : zi 202 81 = some (.iaload, 1)) (by decide +kernel) (by decide) g0 g1 ?_
      refine Fr.callI (y2 := 201) (na := 2) (as := [rf 73, it (s2 94 v5)]) (rest := []) (by decide +kernel : zi 202 82 = some (.invokevirtual 320, 3)) rfl (by decide +kernel) (by decide +kernel) rfl rfl (zok_V rfl (by decide) (by decide +kernel) (by decide +kernel) (zrecv_c (c := 72) (by decide) (by decide +kernel)) rfl (Nat.le_of_ble_eq_true rfl)) h (fun r4 s3 h => ?_)
      refine Fr.ist (lv2 := [some (rf 73), some (it v1), some (it v2), some (it v3), some (it v4), some (it v5), some (it r4)]) (by decide +kernel : zi 202 85 = some (.istore 6, 2)) (Nat.le_of_ble_eq_true rfl) rfl ?_
      refine Fr.ild (by decide +kernel : zi 202 87 = some (.iload 6, 2)) rfl ?_
      refine Fr.ildn (by decide +kernel : zi 202 89 = some (.iload_n 3, 1)) rfl ?_
      refine Fr.if2 (q := 126) (by decide +kernel : zi 202 90 = some (.if_icmp .lt 36, 3)) (by decide +kernel) (fun g9 => ?_) (fun g9 => ?_)
      · have h := h.1 g9
        exact h
      · have h := h.2 g9
        refine Fr.ild (by decide +kernel : zi 202 93 = some (.iload 6, 2)) rfl ?_
        refine Fr.ildn (by decide +kernel : zi 202 95 = some (.iload_n 3, 1)) rfl ?_
        refine Fr.if2 (q := 114) (by decide +kernel : zi 202 96 = some (.if_icmp .ne 18, 3)) (by decide +kernel) (fun g9 => ?_) (fun g9 => ?_)
        · have h := h.1 g9
          exact h
        · have h := h.2 g9
          refine Fr.aldn (c := 73) (by decide +kernel : zi 202 99 = some (.aload_n 0, 1)) rfl ⟨by omega, by omega⟩ ?_
          refine Fr.gR (c := 72) (c2 := 95) (ci := 8) (k := 39) 39 (by decide +kernel : zi 202 100 = some (.getfield 78, 3)) (by decide +kernel) (by decide +kernel) (by decide +kernel) (by decide) rfl (fun q => q (72, 39, 95) (by decide +kernel)) ?_
          refine Fr.ild (by decide +kernel : zi 202 103 = some (.iload 5, 2)) rfl ?_
          obtain ⟨⟨g0, g1⟩, h⟩ := h
          refine Fr.iald (c := 94) (N := 1500) (by decide +kernel : zi 202 105 = some (.iaload, 1)) (by decide +kernel) (by decide) g0 g1 ?_
          refine Fr.ild (by decide +kernel : zi 202 106 = some (.iload 4, 2)) rfl ?_
          refine Fr.if2 (q := 114) (by decide +kernel : zi 202 108 = some (.if_icmp .lt 6, 3)) (by decide +kernel) (fun g9 => ?_) (fun g9 => ?_)
          · have h := h.1 g9
            exact h
          · have h := h.2 g9
            refine Fr.goto (q := 126) (by decide +kernel : zi 202 111 = some (.goto 15, 3)) (by decide +kernel) ?_
            exact h
    · have h := h.2 g9
      refine Fr.goto (q := 126) (by decide +kernel : zi 202 60 = some (.goto 66, 3)) (by decide +kernel) ?_
      exact h
theorem f202_114 {xs : Nat → Int} {L : Nat} {d : Nat} {v1 : Int} {v2 : Int} {v3 : Int} {v4 : Int} {v5 : Int} {v6 : Int} {s : Pl} {P : Int → Pl → Prop} (h : (0 ≤ v5 ∧ v5 < 1500) ∧ Fr xs L T0 106 d 202 126 [some (rf 73), some (it v1), some (it v2), some (it v6), some (it (s 94 v5)), some (it v5), some (it v6)] [] s (qi P)) : Fr xs L T0 106 d 202 114 [some (rf 73), some (it v1), some (it v2), some (it v3), some (it v4), some (it v5), some (it v6)] [] s (qi P) := by
  refine Fr.ild (by decide +kernel : zi 202 114 = some (.iload 6, 2)) rfl ?_
  refine Fr.istn (lv2 := [some (rf 73), some (it v1), some (it v2), some (it v6), some (it v4), some (it v5), some (it v6)]) (by decide +kernel : zi 202 116 = some (.istore_n 3, 1)) (Nat.le_of_ble_eq_true rfl) rfl ?_
  refine Fr.aldn (c := 73) (by decide +kernel : zi 202 117 = some (.aload_n 0, 1)) rfl ⟨by omega, by omega⟩ ?_
  refine Fr.gR (c := 72) (c2 := 95) (ci := 8) (k := 39) 39 (by decide +kernel : zi 202 118 = some (.getfield 78, 3)) (by decide +kernel) (by decide +kernel) (by decide +kernel) (by decide) rfl (fun q => q (72, 39, 95) (by decide +kernel)) ?_
  refine Fr.ild (by decide +kernel : zi 202 121 = some (.iload 5, 2)) rfl ?_
  obtain ⟨⟨g0, g1⟩, h⟩ := h
  refine Fr.iald (c := 94) (N := 1500) (by decide +kernel : zi 202 123 = some (.iaload, 1)) (by decide +kernel) (by decide) g0 g1 ?_
  refine Fr.ist (lv2 := [some (rf 73), some (it v1), some (it v2), some (it v6), some (it (s 94 v5)), some (it v5), some (it v6)]) (by decide +kernel : zi 202 124 = some (.istore 4, 2)) (Nat.le_of_ble_eq_true rfl) rfl ?_
  exact h
theorem f202_126 {xs : Nat → Int} {L : Nat} {d : Nat} {v1 : Int} {v2 : Int} {v3 : Int} {v4 : Int} {v5 : Int} {w6 : Option AV} {s : Pl} {P : Int → Pl → Prop} (h : Fr xs L T0 106 d 202 40 [some (rf 73), some (it v1), some (it v2), some (it v3), some (it v4), some (it (zw (v5 + 1))), w6] [] s (qi P)) : Fr xs L T0 106 d 202 126 [some (rf 73), some (it v1), some (it v2), some (it v3), some (it v4), some (it v5), w6] [] s (qi P) := by
  refine Fr.iinc (lv2 := [some (rf 73), some (it v1), some (it v2), some (it v3), some (it v4), some (it (zw (v5 + 1))), w6]) (by decide +kernel : zi 202 126 = some (.iinc 5 1, 3)) (Nat.le_of_ble_eq_true rfl) rfl rfl ?_
  refine Fr.goto (q := 40) (by decide +kernel : zi 202 129 = some (.goto (-89), 3)) (by decide +kernel) ?_
  exact h
-- 203 X8_wayOf
theorem f203_0 {xs : Nat → Int} {L : Nat} {d : Nat} {v1 : Int} {v2 : Int} {s : Pl} {P : Int → Pl → Prop} (h : Fr xs L T0 106 d 203 2 [some (rf 73), some (it v1), some (it v2), some (it 0), none, none] [] s (qi P)) : Fr xs L T0 106 d 203 0 [some (rf 73), some (it v1), some (it v2), none, none, none] [] s (qi P) := by
  refine Fr.iconst (by decide +kernel : zi 203 0 = some (.iconst 0, 1)) (by decide) ?_
  refine Fr.istn (lv2 := [some (rf 73), some (it v1), some (it v2), some (it 0), none, none]) (by decide +kernel : zi 203 1 = some (.istore_n 3, 1)) (Nat.le_of_ble_eq_true rfl) rfl ?_
  exact h
theorem e203 {xs : Nat → Int} {L : Nat} {d : Nat} {v1 : Int} {v2 : Int} {s : Pl} {Q : Option AV → Pl → Prop} (hd : 1 ≤ d) (k : Fr xs L T0 106 (d - 1) 203 0 [some (rf 73), some (it v1), some (it v2), none, none, none] [] s Q) : Ev xs L T0 106 d 203 [rf 73, it v1, it v2] s Q := Ev.of (by decide) _ rfl hd k
theorem f203_2 {xs : Nat → Int} {L : Nat} {d : Nat} {v1 : Int} {v2 : Int} {v3 : Int} {s : Pl} {P : Int → Pl → Prop} (h : ((4 ≤ v3 → Fr xs L T0 106 d 203 31 [some (rf 73), some (it v1), some (it v2), some (it 0), none, none] [] s (qi P)) ∧ (¬ (4 ≤ v3) → ((¬ v3 = v1 → Fr xs L T0 106 d 203 22 [some (rf 73), some (it v1), some (it v2), some (it v3), none, none] [it (-1), it v3, rf 99] s (qi P)) ∧ (¬ (¬ v3 = v1) → Fr xs L T0 106 d 203 22 [some (rf 73), some (it v1), some (it v2), some (it v3), none, none] [it 0, it v3, rf 99] s (qi P)))))) : Fr xs L T0 106 d 203 2 [some (rf 73), some (it v1), some (it v2), some (it v3), none, none] [] s (qi P) := by
  refine Fr.ildn (by decide +kernel : zi 203 2 = some (.iload_n 3, 1)) rfl ?_
  refine Fr.iconst (by decide +kernel : zi 203 3 = some (.iconst 4, 1)) (by decide) ?_
  refine Fr.if2 (q := 29) (by decide +kernel : zi 203 4 = some (.if_icmp .ge 25, 3)) (by decide +kernel) (fun g9 => ?_) (fun g9 => ?_)
  · have h := h.1 g9
    refine Fr.iconst (by decide +kernel : zi 203 29 = some (.iconst 0, 1)) (by decide) ?_
    refine Fr.istn (lv2 := [some (rf 73), some (it v1), some (it v2), some (it 0), none, none]) (by decide +kernel : zi 203 30 = some (.istore_n 3, 1)) (Nat.le_of_ble_eq_true rfl) rfl ?_
    exact h
  · have h := h.2 g9
    refine Fr.aldn (c := 73) (by decide +kernel : zi 203 7 = some (.aload_n 0, 1)) rfl ⟨by omega, by omega⟩ ?_
    refine Fr.gR (c := 72) (c2 := 99) (ci := 8) (k := 43) 43 (by decide +kernel : zi 203 8 = some (.getfield 91, 3)) (by decide +kernel) (by decide +kernel) (by decide +kernel) (by decide) rfl (fun q => q (72, 43, 99) (by decide +kernel)) ?_
    refine Fr.ildn (by decide +kernel : zi 203 11 = some (.iload_n 3, 1)) rfl ?_
    refine Fr.ildn (by decide +kernel : zi 203 12 = some (.iload_n 3, 1)) rfl ?_
    refine Fr.ildn (by decide +kernel : zi 203 13 = some (.iload_n 1, 1)) rfl ?_
    refine Fr.if2 (q := 21) (by decide +kernel : zi 203 14 = some (.if_icmp .ne 7, 3)) (by decide +kernel) (fun g9 => ?_) (fun g9 => ?_)
    · have h := h.1 g9
      refine Fr.iconst (by decide +kernel : zi 203 21 = some (.iconst (-1), 1)) (by decide) ?_
      exact h
    · have h := h.2 g9
      refine Fr.iconst (by decide +kernel : zi 203 17 = some (.iconst 0, 1)) (by decide) ?_
      refine Fr.goto (q := 22) (by decide +kernel : zi 203 18 = some (.goto 4, 3)) (by decide +kernel) ?_
      exact h
theorem f203_22 {xs : Nat → Int} {L : Nat} {d : Nat} {v1 : Int} {v2 : Int} {v3 : Int} {vs0 : Int} {vs1 : Int} {s : Pl} {P : Int → Pl → Prop} (h : (0 ≤ vs1 ∧ vs1 < 4) ∧ Fr xs L T0 106 d 203 2 [some (rf 73), some (it v1), some (it v2), some (it (zw (v3 + 1))), none, none] [] (zup s 98 vs1 vs0) (qi P)) : Fr xs L T0 106 d 203 22 [some (rf 73), some (it v1), some (it v2), some (it v3), none, none] [it vs0, it vs1, rf 99] s (qi P) := by
  obtain ⟨⟨g0, g1⟩, h⟩ := h
  refine Fr.iast (c := 98) (N := 4) (by decide +kernel : zi 203 22 = some (.iastore, 1)) (by decide +kernel) (by decide) g0 g1 ?_
  refine Fr.iinc (lv2 := [some (rf 73), some (it v1), some (it v2), some (it (zw (v3 + 1))), none, none]) (by decide +kernel : zi 203 23 = some (.iinc 3 1, 3)) (Nat.le_of_ble_eq_true rfl) rfl rfl ?_
  refine Fr.goto (q := 2) (by decide +kernel : zi 203 26 = some (.goto (-24), 3)) (by decide +kernel) ?_
  exact h
theorem f203_31 {xs : Nat → Int} {L : Nat} {d : Nat} {v1 : Int} {v2 : Int} {v3 : Int} {w4 : Option AV} {w5 : Option AV} {s : Pl} {P : Int → Pl → Prop} (h : ((4 ≤ v3 → (0 ≤ v2 ∧ v2 < 4) ∧ P (s 98 v2) s) ∧ (¬ (4 ≤ v3) → Fr xs L T0 106 d 203 39 [some (rf 73), some (it v1), some (it v2), some (it v3), some (it 0), w5] [] s (qi P)))) : Fr xs L T0 106 d 203 31 [some (rf 73), some (it v1), some (it v2), some (it v3), w4, w5] [] s (qi P) := by
  refine Fr.ildn (by decide +kernel : zi 203 31 = some (.iload_n 3, 1)) rfl ?_
  refine Fr.iconst (by decide +kernel : zi 203 32 = some (.iconst 4, 1)) (by decide) ?_
  refine Fr.if2 (q := 151) (by decide +kernel : zi 203 33 = some (.if_icmp .ge 118, 3)) (by decide +kernel) (fun g9 => ?_) (fun g9 => ?_)
  · have h := h.1 g9
    refine Fr.aldn (c := 73) (by decide +kernel : zi 203 151 = some (.aload_n 0, 1)) rfl ⟨by omega, by omega⟩ ?_
    refine Fr.gR (c := 72) (c2 := 99) (ci := 8) (k := 43) 43 (by decide +kernel : zi 203 152 = some (.getfield 91, 3)) (by decide +kernel) (by decide +kernel) (by decide +kernel) (by decide) rfl (fun q => q (72, 43, 99) (by decide +kernel)) ?_
    refine Fr.ildn (by decide +kernel : zi 203 155 = some (.iload_n 2, 1)) rfl ?_
    obtain ⟨⟨g0, g1⟩, h⟩ := h
    refine Fr.iald (c := 98) (N := 4) (by decide +kernel : zi 203 156 = some (.iaload, 1)) (by decide +kernel) (by decide) g0 g1 ?_
    exact Fr.retI (by decide +kernel : zi 203 157 = some (.ireturn, 1)) (by decide +kernel) h
  · have h := h.2 g9
    refine Fr.iconst (by decide +kernel : zi 203 36 = some (.iconst 0, 1)) (by decide) ?_
    refine Fr.ist (lv2 := [some (rf 73), some (it v1), some (it v2), some (it v3), some (it 0), w5]) (by decide +kernel : zi 203 37 = some (.istore 4, 2)) (Nat.le_of_ble_eq_true rfl) rfl ?_
    exact h
theorem f203_39 {xs : Nat → Int} {L : Nat} {d : Nat} {v1 : Int} {v2 : Int} {v3 : Int} {v4 : Int} {w5 : Option AV} {s : Pl} {P : Int → Pl → Prop} (h : ((4 ≤ v4 → Fr xs L T0 106 d 203 31 [some (rf 73), some (it v1), some (it v2), some (it (zw (v3 + 1))), some (it v4), w5] [] s (qi P)) ∧ (¬ (4 ≤ v4) → (0 ≤ v4 ∧ v4 < 4) ∧ ((0 ≤ s 98 v4 → Fr xs L T0 106 d 203 61 [some (rf 73), some (it v1), some (it v2), some (it v3), some (it v4), some (it 0)] [] s (qi P)) ∧ (¬ (0 ≤ s 98 v4) → Fr xs L T0 106 d 203 139 [some (rf 73), some (it v1), some (it v2), some (it v3), some (it v4), w5] [] s (qi P)))))) : Fr xs L T0 106 d 203 39 [some (rf 73), some (it v1), some (it v2), some (it v3), some (it v4), w5] [] s (qi P) := by
  refine Fr.ild (by decide +kernel : zi 203 39 = some (.iload 4, 2)) rfl ?_
  refine Fr.iconst (by decide +kernel : zi 203 41 = some (.iconst 4, 1)) (by decide) ?_
  refine Fr.if2 (q := 145) (by decide +kernel : zi 203 42 = some (.if_icmp .ge 103, 3)) (by decide +kernel) (fun g9 => ?_) (fun g9 => ?_)
  · have h := h.1 g9
    refine Fr.iinc (lv2 := [some (rf 73), some (it v1), some (it v2), some (it (zw (v3 + 1))), some (it v4), w5]) (by decide +kernel : zi 203 145 = some (.iinc 3 1, 3)) (Nat.le_of_ble_eq_true rfl) rfl rfl ?_
    refine Fr.goto (q := 31) (by decide +kernel : zi 203 148 = some (.goto (-117), 3)) (by decide +kernel) ?_
    exact h
  · have h := h.2 g9
    refine Fr.aldn (c := 73) (by decide +kernel : zi 203 45 = some (.aload_n 0, 1)) rfl ⟨by omega, by omega⟩ ?_
    refine Fr.gR (c := 72) (c2 := 99) (ci := 8) (k := 43) 43 (by decide +kernel : zi 203 46 = some (.getfield 91, 3)) (by decide +kernel) (by decide +kernel) (by decide +kernel) (by decide) rfl (fun q => q (72, 43, 99) (by decide +kernel)) ?_
    refine Fr.ild (by decide +kernel : zi 203 49 = some (.iload 4, 2)) rfl ?_
    obtain ⟨⟨g0, g1⟩, h⟩ := h
    refine Fr.iald (c := 98) (N := 4) (by decide +kernel : zi 203 51 = some (.iaload, 1)) (by decide +kernel) (by decide) g0 g1 ?_
    refine Fr.if0 (q := 58) (by decide +kernel : zi 203 52 = some (.ifCond .ge 6, 3)) (by decide +kernel) (fun g9 => ?_) (fun g9 => ?_)
    · have h := h.1 g9
      refine Fr.iconst (by decide +kernel : zi 203 58 = some (.iconst 0, 1)) (by decide) ?_
      refine Fr.ist (lv2 := [some (rf 73), some (it v1), some (it v2), some (it v3), some (it v4), some (it 0)]) (by decide +kernel : zi 203 59 = some (.istore 5, 2)) (Nat.le_of_ble_eq_true rfl) rfl ?_
      exact h
    · have h := h.2 g9
      refine Fr.goto (q := 139) (by decide +kernel : zi 203 55 = some (.goto 84, 3)) (by decide +kernel) ?_
      exact h
theorem f203_61 {xs : Nat → Int} {L : Nat} {d : Nat} {v1 : Int} {v2 : Int} {v3 : Int} {v4 : Int} {v5 : Int} {s : Pl} {P : Int → Pl → Prop} (h : ((4 ≤ v5 → Fr xs L T0 106 d 203 139 [some (rf 73), some (it v1), some (it v2), some (it v3), some (it v4), some (it v5)] [] s (qi P)) ∧ (¬ (4 ≤ v5) → ((v5 = v4 → Fr xs L T0 106 d 203 133 [some (rf 73), some (it v1), some (it v2), some (it v3), some (it v4), some (it v5)] [] s (qi P)) ∧ (¬ (v5 = v4) → (0 ≤ v5 ∧ v5 < 4) ∧ ((s 98 v5 < 0 → Fr xs L T0 106 d 203 110 [some (rf 73), some (it v1), some (it v2), some (it v3), some (it v4), some (it v5)] [] s (qi P)) ∧ (¬ (s 98 v5 < 0) → (0 ≤ v4 ∧ v4 < 4) ∧ Ev xs L T0 106 d 165 [rf 73, it v4, it v5] s (qi fun r2 s1 => (0 ≤ v5 ∧ v5 < 4) ∧ ((s1 98 v5 ≤ zw ((s 98 v4) + r2) → Fr xs L T0 106 d 203 133 [some (rf 73), some (it v1), some (it v2), some (it v3), some (it v4), some (it v5)] [] s1 (qi P)) ∧ (¬ (s1 98 v5 ≤ zw ((s 98 v4) + r2)) → Fr xs L T0 106 d 203 110 [some (rf 73), some (it v1), some (it v2), some (it v3), some (it v4), some (it v5)] [] s1 (qi P))))))))))) : Fr xs L T0 106 d 203 61 [some (rf 73), some (it v1), some (it v2), some (it v3), some (it v4), some (it v5)] [] s (qi P) := by
  refine Fr.ild (by decide +kernel : zi 203 61 = some (.iload 5, 2)) rfl ?_
  refine Fr.iconst (by decide +kernel : zi 203 63 = some (.iconst 4, 1)) (by decide) ?_
  refine Fr.if2 (q := 139) (by decide +kernel : zi 203 64 = some (.if_icmp .ge 75, 3)) (by decide +kernel) (fun g9 => ?_) (fun g9 => ?_)
  · have h := h.1 g9
    exact h
  · have h := h.2 g9
    refine Fr.ild (by decide +kernel : zi 203 67 = some (.iload 5, 2)) rfl ?_
    refine Fr.ild (by decide +kernel : zi 203 69 = some (.iload 4, 2)) rfl ?_
    refine Fr.if2 (q := 133) (by decide +kernel : zi 203 71 = some (.if_icmp .eq 62, 3)) (by decide +kernel) (fun g9 => ?_) (fun g9 => ?_)
    · have h := h.1 g9
      exact h
    · have h := h.2 g9
      refine Fr.aldn (c := 73) (by decide +kernel : zi 203 74 = some (.aload_n 0, 1)) rfl ⟨by omega, by omega⟩ ?_
      refine Fr.gR (c := 72) (c2 := 99) (ci := 8) (k := 43) 43 (by decide +kernel : zi 203 75 = some (.getfield 91, 3)) (by decide +kernel) (by decide +kernel) (by decide +kernel) (by decide) rfl (fun q => q (72, 43, 99) (by decide +kernel)) ?_
      refine Fr.ild (by decide +kernel : zi 203 78 = some (.iload 5, 2)) rfl ?_
      obtain ⟨⟨g0, g1⟩, h⟩ := h
      refine Fr.iald (c := 98) (N := 4) (by decide +kernel : zi 203 80 = some (.iaload, 1)) (by decide +kernel) (by decide) g0 g1 ?_
      refine Fr.if0 (q := 110) (by decide +kernel : zi 203 81 = some (.ifCond .lt 29, 3)) (by decide +kernel) (fun g9 => ?_) (fun g9 => ?_)
      · have h := h.1 g9
        exact h
      · have h := h.2 g9
        refine Fr.aldn (c := 73) (by decide +kernel : zi 203 84 = some (.aload_n 0, 1)) rfl ⟨by omega, by omega⟩ ?_
        refine Fr.gR (c := 72) (c2 := 99) (ci := 8) (k := 43) 43 (by decide +kernel : zi 203 85 = some (.getfield 91, 3)) (by decide +kernel) (by decide +kernel) (by decide +kernel) (by decide) rfl (fun q => q (72, 43, 99) (by decide +kernel)) ?_
        refine Fr.ild (by decide +kernel : zi 203 88 = some (.iload 4, 2)) rfl ?_
        obtain ⟨⟨g0, g1⟩, h⟩ := h
        refine Fr.iald (c := 98) (N := 4) (by decide +kernel : zi 203 90 = some (.iaload, 1)) (by decide +kernel) (by decide) g0 g1 ?_
        refine Fr.aldn (c := 73) (by decide +kernel : zi 203 91 = some (.aload_n 0, 1)) rfl ⟨by omega, by omega⟩ ?_
        refine Fr.ild (by decide +kernel : zi 203 92 = some (.iload 4, 2)) rfl ?_
        refine Fr.ild (by decide +kernel : zi 203 94 = some (.iload 5, 2)) rfl ?_
        refine Fr.callI (y2 := 165) (na := 3) (as := [rf 73, it v4, it v5]) (rest := [it (s 98 v4)]) (by decide +kernel : zi 203 96 = some (.invokevirtual 243, 3)) rfl (by decide +kernel) (by decide +kernel) rfl rfl (zok_V rfl (by decide) (by decide +kernel) (by decide +kernel) (zrecv_c (c := 72) (by decide) (by decide +kernel)) rfl (Nat.le_of_ble_eq_true rfl)) h (fun r2 s1 h => ?_)
        refine Fr.iadd (by decide +kernel : zi 203 99 = some (.iadd, 1)) ?_
        refine Fr.aldn (c := 73) (by decide +kernel : zi 203 100 = some (.aload_n 0, 1)) rfl ⟨by omega, by omega⟩ ?_
        refine Fr.gR (c := 72) (c2 := 99) (ci := 8) (k := 43) 43 (by decide +kernel : zi 203 101 = some (.getfield 91, 3)) (by decide +kernel) (by decide +kernel) (by decide +kernel) (by decide) rfl (fun q => q (72, 43, 99) (by decide +kernel)) ?_
        refine Fr.ild (by decide +kernel : zi 203 104 = some (.iload 5, 2)) rfl ?_
        obtain ⟨⟨g0, g1⟩, h⟩ := h
        refine Fr.iald (c := 98) (N := 4) (by decide +kernel : zi 203 106 = some (.iaload, 1)) (by decide +kernel) (by decide) g0 g1 ?_
        refine Fr.if2 (q := 133) (by decide +kernel : zi 203 107 = some (.if_icmp .ge 26, 3)) (by decide +kernel) (fun g9 => ?_) (fun g9 => ?_)
        · have h := h.1 g9
          exact h
        · have h := h.2 g9
          exact h
theorem f203_110 {xs : Nat → Int} {L : Nat} {d : Nat} {v1 : Int} {v2 : Int} {v3 : Int} {v4 : Int} {v5 : Int} {s : Pl} {P : Int → Pl → Prop} (h : (0 ≤ v4 ∧ v4 < 4) ∧ Ev xs L T0 106 d 165 [rf 73, it v4, it v5] s (qi fun r2 s1 => (0 ≤ v5 ∧ v5 < 4) ∧ Fr xs L T0 106 d 203 133 [some (rf 73), some (it v1), some (it v2), some (it v3), some (it v4), some (it v5)] [] (zup s1 98 v5 (zw ((s 98 v4) + r2))) (qi P))) : Fr xs L T0 106 d 203 110 [some (rf 73), some (it v1), some (it v2), some (it v3), some (it v4), some (it v5)] [] s (qi P) := by
  refine Fr.aldn (c := 73) (by decide +kernel : zi 203 110 = some (.aload_n 0, 1)) rfl ⟨by omega, by omega⟩ ?_
  refine Fr.gR (c := 72) (c2 := 99) (ci := 8) (k := 43) 43 (by decide +kernel : zi 203 111 = some (.getfield 91, 3)) (by decide +kernel) (by decide +kernel) (by decide +kernel) (by decide) rfl (fun q => q (72, 43, 99) (by decide +kernel)) ?_
  refine Fr.ild (by decide +kernel : zi 203 114 = some (.iload 5, 2)) rfl ?_
  refine Fr.aldn (c := 73) (by decide +kernel : zi 203 116 = some (.aload_n 0, 1)) rfl ⟨by omega, by omega⟩ ?_
  refine Fr.gR (c := 72) (c2 := 99) (ci := 8) (k := 43) 43 (by decide +kernel : zi 203 117 = some (.getfield 91, 3)) (by decide +kernel) (by decide +kernel) (by decide +kernel) (by decide) rfl (fun q => q (72, 43, 99) (by decide +kernel)) ?_
  refine Fr.ild (by decide +kernel : zi 203 120 = some (.iload 4, 2)) rfl ?_
  obtain ⟨⟨g0, g1⟩, h⟩ := h
  refine Fr.iald (c := 98) (N := 4) (by decide +kernel : zi 203 122 = some (.iaload, 1)) (by decide +kernel) (by decide) g0 g1 ?_
  refine Fr.aldn (c := 73) (by decide +kernel : zi 203 123 = some (.aload_n 0, 1)) rfl ⟨by omega, by omega⟩ ?_
  refine Fr.ild (by decide +kernel : zi 203 124 = some (.iload 4, 2)) rfl ?_
  refine Fr.ild (by decide +kernel : zi 203 126 = some (.iload 5, 2)) rfl ?_
  refine Fr.callI (y2 := 165) (na := 3) (as := [rf 73, it v4, it v5]) (rest := [it (s 98 v4), it v5, rf 99]) (by decide +kernel : zi 203 128 = some (.invokevirtual 243, 3)) rfl (by decide +kernel) (by decide +kernel) rfl rfl (zok_V rfl (by decide) (by decide +kernel) (by decide +kernel) (zrecv_c (c := 72) (by decide) (by decide +kernel)) rfl (Nat.le_of_ble_eq_true rfl)) h (fun r2 s1 h => ?_)
  refine Fr.iadd (by decide +kernel : zi 203 131 = some (.iadd, 1)) ?_
  obtain ⟨⟨g0, g1⟩, h⟩ := h
  refine Fr.iast (c := 98) (N := 4) (by decide +kernel : zi 203 132 = some (.iastore, 1)) (by decide +kernel) (by decide) g0 g1 ?_
  exact h
theorem f203_133 {xs : Nat → Int} {L : Nat} {d : Nat} {v1 : Int} {v2 : Int} {v3 : Int} {v4 : Int} {v5 : Int} {s : Pl} {P : Int → Pl → Prop} (h : Fr xs L T0 106 d 203 61 [some (rf 73), some (it v1), some (it v2), some (it v3), some (it v4), some (it (zw (v5 + 1)))] [] s (qi P)) : Fr xs L T0 106 d 203 133 [some (rf 73), some (it v1), some (it v2), some (it v3), some (it v4), some (it v5)] [] s (qi P) := by
  refine Fr.iinc (lv2 := [some (rf 73), some (it v1), some (it v2), some (it v3), some (it v4), some (it (zw (v5 + 1)))]) (by decide +kernel : zi 203 133 = some (.iinc 5 1, 3)) (Nat.le_of_ble_eq_true rfl) rfl rfl ?_
  refine Fr.goto (q := 61) (by decide +kernel : zi 203 136 = some (.goto (-75), 3)) (by decide +kernel) ?_
  exact h
theorem f203_139 {xs : Nat → Int} {L : Nat} {d : Nat} {v1 : Int} {v2 : Int} {v3 : Int} {v4 : Int} {w5 : Option AV} {s : Pl} {P : Int → Pl → Prop} (h : Fr xs L T0 106 d 203 39 [some (rf 73), some (it v1), some (it v2), some (it v3), some (it (zw (v4 + 1))), w5] [] s (qi P)) : Fr xs L T0 106 d 203 139 [some (rf 73), some (it v1), some (it v2), some (it v3), some (it v4), w5] [] s (qi P) := by
  refine Fr.iinc (lv2 := [some (rf 73), some (it v1), some (it v2), some (it v3), some (it (zw (v4 + 1))), w5]) (by decide +kernel : zi 203 139 = some (.iinc 4 1, 3)) (Nat.le_of_ble_eq_true rfl) rfl rfl ?_
  refine Fr.goto (q := 39) (by decide +kernel : zi 203 142 = some (.goto (-103), 3)) (by decide +kernel) ?_
  exact h
-- 204 X8_boundNow
theorem f204_0 {xs : Nat → Int} {L : Nat} {d : Nat}  {s : Pl} {P : Int → Pl → Prop} (h : Fr xs L T0 106 d 204 4 [some (rf 73), some (it 0), some (it 0), none, none] [] s (qi P)) : Fr xs L T0 106 d 204 0 [some (rf 73), none, none, none, none] [] s (qi P) := by
  refine Fr.iconst (by decide +kernel : zi 204 0 = some (.iconst 0, 1)) (by decide) ?_
  refine Fr.istn (lv2 := [some (rf 73), some (it 0), none, none, none]) (by decide +kernel : zi 204 1 = some (.istore_n 1, 1)) (Nat.le_of_ble_eq_true rfl) rfl ?_
  refine Fr.iconst (by decide +kernel : zi 204 2 = some (.iconst 0, 1)) (by decide) ?_
  refine Fr.istn (lv2 := [some (rf 73), some (it 0), some (it 0), none, none]) (by decide +kernel : zi 204 3 = some (.istore_n 2, 1)) (Nat.le_of_ble_eq_true rfl) rfl ?_
  exact h
theorem e204 {xs : Nat → Int} {L : Nat} {d : Nat}  {s : Pl} {Q : Option AV → Pl → Prop} (hd : 1 ≤ d) (k : Fr xs L T0 106 (d - 1) 204 0 [some (rf 73), none, none, none, none] [] s Q) : Ev xs L T0 106 d 204 [rf 73] s Q := Ev.of (by decide) _ rfl hd k
theorem f204_4 {xs : Nat → Int} {L : Nat} {d : Nat} {v1 : Int} {v2 : Int} {w3 : Option AV} {w4 : Option AV} {s : Pl} {P : Int → Pl → Prop} (h : ((s 72 3 ≤ v2 → P v1 s) ∧ (¬ (s 72 3 ≤ v2) → Ev xs L T0 106 d 180 [rf 73, it v2] s (qi fun r2 s1 => ((r2 = 0 → (0 ≤ v2 ∧ v2 < 7) ∧ ((¬ s1 75 v2 = 4 → (0 ≤ v2 ∧ v2 < 7) ∧ Fr xs L T0 106 d 204 46 [some (rf 73), some (it v1), some (it v2), w3, w4] [it (s1 75 v2)] s1 (qi P)) ∧ (¬ (¬ s1 75 v2 = 4) → Fr xs L T0 106 d 204 46 [some (rf 73), some (it v1), some (it v2), w3, w4] [it (s1 72 2)] s1 (qi P)))) ∧ (¬ (r2 = 0) → Fr xs L T0 106 d 204 79 [some (rf 73), some (it v1), some (it v2), w3, w4] [] s1 (qi P))))))) : Fr xs L T0 106 d 204 4 [some (rf 73), some (it v1), some (it v2), w3, w4] [] s (qi P) := by
  refine Fr.ildn (by decide +kernel : zi 204 4 = some (.iload_n 2, 1)) rfl ?_
  refine Fr.aldn (c := 73) (by decide +kernel : zi 204 5 = some (.aload_n 0, 1)) rfl ⟨by omega, by omega⟩ ?_
  refine Fr.gI (c := 72) (ci := 8) (k := 3) (t := 0) 3 (by decide +kernel : zi 204 6 = some (.getfield 122, 3)) (by decide +kernel) (by decide +kernel) (by decide +kernel) (by decide) rfl ?_
  refine Fr.if2 (q := 85) (by decide +kernel : zi 204 9 = some (.if_icmp .ge 76, 3)) (by decide +kernel) (fun g9 => ?_) (fun g9 => ?_)
  · have h := h.1 g9
    refine Fr.ildn (by decide +kernel : zi 204 85 = some (.iload_n 1, 1)) rfl ?_
    exact Fr.retI (by decide +kernel : zi 204 86 = some (.ireturn, 1)) (by decide +kernel) h
  · have h := h.2 g9
    refine Fr.aldn (c := 73) (by decide +kernel : zi 204 12 = some (.aload_n 0, 1)) rfl ⟨by omega, by omega⟩ ?_
    refine Fr.ildn (by decide +kernel : zi 204 13 = some (.iload_n 2, 1)) rfl ?_
    refine Fr.callI (y2 := 180) (na := 2) (as := [rf 73, it v2]) (rest := []) (by decide +kernel : zi 204 14 = some (.invokevirtual 269, 3)) rfl (by decide +kernel) (by decide +kernel) rfl rfl (zok_V rfl (by decide) (by decide +kernel) (by decide +kernel) (zrecv_c (c := 72) (by decide) (by decide +kernel)) rfl (Nat.le_of_ble_eq_true rfl)) h (fun r2 s1 h => ?_)
    refine Fr.if0 (q := 23) (by decide +kernel : zi 204 17 = some (.ifCond .eq 6, 3)) (by decide +kernel) (fun g9 => ?_) (fun g9 => ?_)
    · have h := h.1 g9
      refine Fr.aldn (c := 73) (by decide +kernel : zi 204 23 = some (.aload_n 0, 1)) rfl ⟨by omega, by omega⟩ ?_
      refine Fr.gR (c := 72) (c2 := 76) (ci := 8) (k := 5) 5 (by decide +kernel : zi 204 24 = some (.getfield 16, 3)) (by decide +kernel) (by decide +kernel) (by decide +kernel) (by decide) rfl (fun q => q (72, 5, 76) (by decide +kernel)) ?_
      refine Fr.ildn (by decide +kernel : zi 204 27 = some (.iload_n 2, 1)) rfl ?_
      obtain ⟨⟨g0, g1⟩, h⟩ := h
      refine Fr.iald (c := 75) (N := 7) (by decide +kernel : zi 204 28 = some (.iaload, 1)) (by decide +kernel) (by decide) g0 g1 ?_
      refine Fr.iconst (by decide +kernel : zi 204 29 = some (.iconst 4, 1)) (by decide) ?_
      refine Fr.if2 (q := 40) (by decide +kernel : zi 204 30 = some (.if_icmp .ne 10, 3)) (by decide +kernel) (fun g9 => ?_) (fun g9 => ?_)
      · have h := h.1 g9
        refine Fr.aldn (c := 73) (by decide +kernel : zi 204 40 = some (.aload_n 0, 1)) rfl ⟨by omega, by omega⟩ ?_
        refine Fr.gR (c := 72) (c2 := 76) (ci := 8) (k := 5) 5 (by decide +kernel : zi 204 41 = some (.getfield 16, 3)) (by decide +kernel) (by decide +kernel) (by decide +kernel) (by decide) rfl (fun q => q (72, 5, 76) (by decide +kernel)) ?_
        refine Fr.ildn (by decide +kernel : zi 204 44 = some (.iload_n 2, 1)) rfl ?_
        obtain ⟨⟨g0, g1⟩, h⟩ := h
        refine Fr.iald (c := 75) (N := 7) (by decide +kernel : zi 204 45 = some (.iaload, 1)) (by decide +kernel) (by decide) g0 g1 ?_
        exact h
      · have h := h.2 g9
        refine Fr.aldn (c := 73) (by decide +kernel : zi 204 33 = some (.aload_n 0, 1)) rfl ⟨by omega, by omega⟩ ?_
        refine Fr.gI (c := 72) (ci := 8) (k := 2) (t := 0) 2 (by decide +kernel : zi 204 34 = some (.getfield 129, 3)) (by decide +kernel) (by decide +kernel) (by decide +kernel) (by decide) rfl ?_
        refine Fr.goto (q := 46) (by decide +kernel : zi 204 37 = some (.goto 9, 3)) (by decide +kernel) ?_
        exact h
    · have h := h.2 g9
      refine Fr.goto (q := 79) (by decide +kernel : zi 204 20 = some (.goto 59, 3)) (by decide +kernel) ?_
      exact h
theorem f204_46 {xs : Nat → Int} {L : Nat} {d : Nat} {v1 : Int} {v2 : Int} {w3 : Option AV} {w4 : Option AV} {vs0 : Int} {s : Pl} {P : Int → Pl → Prop} (h : Ev xs L T0 106 d 203 [rf 73, it (s 72 2), it vs0] s (qi fun r2 s1 => (0 ≤ v2 ∧ v2 < 7) ∧ Ev xs L T0 106 d 203 [rf 73, it vs0, it (s1 76 v2)] s1 (qi fun r4 s3 => ((zw (r2 + r4) ≤ v1 → Fr xs L T0 106 d 204 79 [some (rf 73), some (it v1), some (it v2), some (it vs0), some (it (zw (r2 + r4)))] [] s3 (qi P)) ∧ (¬ (zw (r2 + r4) ≤ v1) → Fr xs L T0 106 d 204 79 [some (rf 73), some (it (zw (r2 + r4))), some (it v2), some (it vs0), some (it (zw (r2 + r4)))] [] s3 (qi P)))))) : Fr xs L T0 106 d 204 46 [some (rf 73), some (it v1), some (it v2), w3, w4] [it vs0] s (qi P) := by
  refine Fr.istn (lv2 := [some (rf 73), some (it v1), some (it v2), some (it vs0), w4]) (by decide +kernel : zi 204 46 = some (.istore_n 3, 1)) (Nat.le_of_ble_eq_true rfl) rfl ?_
  refine Fr.aldn (c := 73) (by decide +kernel : zi 204 47 = some (.aload_n 0, 1)) rfl ⟨by omega, by omega⟩ ?_
  refine Fr.aldn (c := 73) (by decide +kernel : zi 204 48 = some (.aload_n 0, 1)) rfl ⟨by omega, by omega⟩ ?_
  refine Fr.gI (c := 72) (ci := 8) (k := 2) (t := 0) 2 (by decide +kernel : zi 204 49 = some (.getfield 129, 3)) (by decide +kernel) (by decide +kernel) (by decide +kernel) (by decide) rfl ?_
  refine Fr.ildn (by decide +kernel : zi 204 52 = some (.iload_n 3, 1)) rfl ?_
  refine Fr.callI (y2 := 203) (na := 3) (as := [rf 73, it (s 72 2), it vs0]) (rest := []) (by decide +kernel : zi 204 53 = some (.invokevirtual 323, 3)) rfl (by decide +kernel) (by decide +kernel) rfl rfl (zok_V rfl (by decide) (by decide +kernel) (by decide +kernel) (zrecv_c (c := 72) (by decide) (by decide +kernel)) rfl (Nat.le_of_ble_eq_true rfl)) h (fun r2 s1 h => ?_)
  refine Fr.aldn (c := 73) (by decide +kernel : zi 204 56 = some (.aload_n 0, 1)) rfl ⟨by omega, by omega⟩ ?_
  refine Fr.ildn (by decide +kernel : zi 204 57 = some (.iload_n 3, 1)) rfl ?_
  refine Fr.aldn (c := 73) (by decide +kernel : zi 204 58 = some (.aload_n 0, 1)) rfl ⟨by omega, by omega⟩ ?_
  refine Fr.gR (c := 72) (c2 := 77) (ci := 8) (k := 6) 6 (by decide +kernel : zi 204 59 = some (.getfield 19, 3)) (by decide +kernel) (by decide +kernel) (by decide +kernel) (by decide) rfl (fun q => q (72, 6, 77) (by decide +kernel)) ?_
  refine Fr.ildn (by decide +kernel : zi 204 62 = some (.iload_n 2, 1)) rfl ?_
  obtain ⟨⟨g0, g1⟩, h⟩ := h
  refine Fr.iald (c := 76) (N := 7) (by decide +kernel : zi 204 63 = some (.iaload, 1)) (by decide +kernel) (by decide) g0 g1 ?_
  refine Fr.callI (y2 := 203) (na := 3) (as := [rf 73, it vs0, it (s1 76 v2)]) (rest := [it r2]) (by decide +kernel : zi 204 64 = some (.invokevirtual 323, 3)) rfl (by decide +kernel) (by decide +kernel) rfl rfl (zok_V rfl (by decide) (by decide +kernel) (by decide +kernel) (zrecv_c (c := 72) (by decide) (by decide +kernel)) rfl (Nat.le_of_ble_eq_true rfl)) h (fun r4 s3 h => ?_)
  refine Fr.iadd (by decide +kernel : zi 204 67 = some (.iadd, 1)) ?_
  refine Fr.ist (lv2 := [some (rf 73), some (it v1), some (it v2), some (it vs0), some (it (zw (r2 + r4)))]) (by decide +kernel : zi 204 68 = some (.istore 4, 2)) (Nat.le_of_ble_eq_true rfl) rfl ?_
  refine Fr.ild (by decide +kernel : zi 204 70 = some (.iload 4, 2)) rfl ?_
  refine Fr.ildn (by decide +kernel : zi 204 72 = some (.iload_n 1, 1)) rfl ?_
  refine Fr.if2 (q := 79) (by decide +kernel : zi 204 73 = some (.if_icmp .le 6, 3)) (by decide +kernel) (fun g9 => ?_) (fun g9 => ?_)
  · have h := h.1 g9
    exact h
  · have h := h.2 g9
    refine Fr.ild (by decide +kernel : zi 204 76 = some (.iload 4, 2)) rfl ?_
    refine Fr.istn (lv2 := [some (rf 73), some (it (zw (r2 + r4))), some (it v2), some (it vs0), some (it (zw (r2 + r4)))]) (by decide +kernel : zi 204 78 = some (.istore_n 1, 1)) (Nat.le_of_ble_eq_true rfl) rfl ?_
    exact h
theorem f204_79 {xs : Nat → Int} {L : Nat} {d : Nat} {v1 : Int} {v2 : Int} {w3 : Option AV} {w4 : Option AV} {s : Pl} {P : Int → Pl → Prop} (h : Fr xs L T0 106 d 204 4 [some (rf 73), some (it v1), some (it (zw (v2 + 1))), w3, w4] [] s (qi P)) : Fr xs L T0 106 d 204 79 [some (rf 73), some (it v1), some (it v2), w3, w4] [] s (qi P) := by
  refine Fr.iinc (lv2 := [some (rf 73), some (it v1), some (it (zw (v2 + 1))), w3, w4]) (by decide +kernel : zi 204 79 = some (.iinc 2 1, 3)) (Nat.le_of_ble_eq_true rfl) rfl rfl ?_
  refine Fr.goto (q := 4) (by decide +kernel : zi 204 82 = some (.goto (-78), 3)) (by decide +kernel) ?_
  exact h
-- 205 X8_bound
theorem f205_0 {xs : Nat → Int} {L : Nat} {d : Nat}  {s : Pl} {P : Int → Pl → Prop} (h : Ev xs L T0 106 d 204 [rf 73] s (qi fun r2 s1 => P r2 s1)) : Fr xs L T0 106 d 205 0 [some (rf 73)] [] s (qi P) := by
  refine Fr.aldn (c := 73) (by decide +kernel : zi 205 0 = some (.aload_n 0, 1)) rfl ⟨by omega, by omega⟩ ?_
  refine Fr.callI (y2 := 204) (na := 1) (as := [rf 73]) (rest := []) (by decide +kernel : zi 205 1 = some (.invokevirtual 326, 3)) rfl (by decide +kernel) (by decide +kernel) rfl rfl (zok_V rfl (by decide) (by decide +kernel) (by decide +kernel) (zrecv_c (c := 72) (by decide) (by decide +kernel)) rfl (Nat.le_of_ble_eq_true rfl)) h (fun r2 s1 h => ?_)
  exact Fr.retI (by decide +kernel : zi 205 4 = some (.ireturn, 1)) (by decide +kernel) h
theorem e205 {xs : Nat → Int} {L : Nat} {d : Nat}  {s : Pl} {Q : Option AV → Pl → Prop} (hd : 1 ≤ d) (k : Fr xs L T0 106 (d - 1) 205 0 [some (rf 73)] [] s Q) : Ev xs L T0 106 d 205 [rf 73] s Q := Ev.of (by decide) _ rfl hd k
-- 206 X8_gap
theorem f206_0 {xs : Nat → Int} {L : Nat} {d : Nat}  {s : Pl} {P : Int → Pl → Prop} (h : Ev xs L T0 106 d 197 [rf 73, it 0] s (qi fun r2 s1 => ((0 ≤ r2 → Ev xs L T0 106 d 204 [rf 73] s1 (qi fun r4 s3 => P (zw (r2 - r4)) s3)) ∧ (¬ (0 ≤ r2) → P (-1) s1)))) : Fr xs L T0 106 d 206 0 [some (rf 73), none] [] s (qi P) := by
  refine Fr.aldn (c := 73) (by decide +kernel : zi 206 0 = some (.aload_n 0, 1)) rfl ⟨by omega, by omega⟩ ?_
  refine Fr.iconst (by decide +kernel : zi 206 1 = some (.iconst 0, 1)) (by decide) ?_
  refine Fr.callI (y2 := 197) (na := 2) (as := [rf 73, it 0]) (rest := []) (by decide +kernel : zi 206 2 = some (.invokevirtual 317, 3)) rfl (by decide +kernel) (by decide +kernel) rfl rfl (zok_V rfl (by decide) (by decide +kernel) (by decide +kernel) (zrecv_c (c := 72) (by decide) (by decide +kernel)) rfl (Nat.le_of_ble_eq_true rfl)) h (fun r2 s1 h => ?_)
  refine Fr.istn (lv2 := [some (rf 73), some (it r2)]) (by decide +kernel : zi 206 5 = some (.istore_n 1, 1)) (Nat.le_of_ble_eq_true rfl) rfl ?_
  refine Fr.ildn (by decide +kernel : zi 206 6 = some (.iload_n 1, 1)) rfl ?_
  refine Fr.if0 (q := 14) (by decide +kernel : zi 206 7 = some (.ifCond .ge 7, 3)) (by decide +kernel) (fun g9 => ?_) (fun g9 => ?_)
  · have h := h.1 g9
    refine Fr.ildn (by decide +kernel : zi 206 14 = some (.iload_n 1, 1)) rfl ?_
    refine Fr.aldn (c := 73) (by decide +kernel : zi 206 15 = some (.aload_n 0, 1)) rfl ⟨by omega, by omega⟩ ?_
    refine Fr.callI (y2 := 204) (na := 1) (as := [rf 73]) (rest := [it r2]) (by decide +kernel : zi 206 16 = some (.invokevirtual 326, 3)) rfl (by decide +kernel) (by decide +kernel) rfl rfl (zok_V rfl (by decide) (by decide +kernel) (by decide +kernel) (zrecv_c (c := 72) (by decide) (by decide +kernel)) rfl (Nat.le_of_ble_eq_true rfl)) h (fun r4 s3 h => ?_)
    refine Fr.isub (by decide +kernel : zi 206 19 = some (.isub, 1)) ?_
    exact Fr.retI (by decide +kernel : zi 206 20 = some (.ireturn, 1)) (by decide +kernel) h
  · have h := h.2 g9
    refine Fr.iconst (by decide +kernel : zi 206 10 = some (.iconst (-1), 1)) (by decide) ?_
    refine Fr.goto (q := 20) (by decide +kernel : zi 206 11 = some (.goto 9, 3)) (by decide +kernel) ?_
    exact Fr.retI (by decide +kernel : zi 206 20 = some (.ireturn, 1)) (by decide +kernel) h
theorem e206 {xs : Nat → Int} {L : Nat} {d : Nat}  {s : Pl} {Q : Option AV → Pl → Prop} (hd : 1 ≤ d) (k : Fr xs L T0 106 (d - 1) 206 0 [some (rf 73), none] [] s Q) : Ev xs L T0 106 d 206 [rf 73] s Q := Ev.of (by decide) _ rfl hd k
-- 207 X8_way
theorem f207_0 {xs : Nat → Int} {L : Nat} {d : Nat} {v1 : Int} {v2 : Int} {s : Pl} {P : Int → Pl → Prop} (h : Ev xs L T0 106 d 134 [it v1] s (qi fun r2 s1 => ((r2 = 0 → P (-5) s1) ∧ (¬ (r2 = 0) → Ev xs L T0 106 d 134 [it v2] s1 (qi fun r4 s3 => ((r4 = 0 → P (-5) s3) ∧ (¬ (r4 = 0) → Ev xs L T0 106 d 203 [rf 73, it v1, it v2] s3 (qi fun r6 s5 => P r6 s5)))))))) : Fr xs L T0 106 d 207 0 [some (rf 73), some (it v1), some (it v2)] [] s (qi P) := by
  refine Fr.ildn (by decide +kernel : zi 207 0 = some (.iload_n 1, 1)) rfl ?_
  refine Fr.callI (y2 := 134) (na := 1) (as := [it v1]) (rest := []) (by decide +kernel : zi 207 1 = some (.invokestatic 125, 3)) rfl (by decide +kernel) (by decide +kernel) rfl rfl (zok_S rfl (by decide) (by decide +kernel) rfl (Nat.le_of_ble_eq_true rfl)) h (fun r2 s1 h => ?_)
  refine Fr.if0 (q := 23) (by decide +kernel : zi 207 4 = some (.ifCond .eq 19, 3)) (by decide +kernel) (fun g9 => ?_) (fun g9 => ?_)
  · have h := h.1 g9
    refine Fr.bipush (by decide +kernel : zi 207 23 = some (.bipush (-5), 2)) (by decide) ?_
    exact Fr.retI (by decide +kernel : zi 207 25 = some (.ireturn, 1)) (by decide +kernel) h
  · have h := h.2 g9
    refine Fr.ildn (by decide +kernel : zi 207 7 = some (.iload_n 2, 1)) rfl ?_
    refine Fr.callI (y2 := 134) (na := 1) (as := [it v2]) (rest := []) (by decide +kernel : zi 207 8 = some (.invokestatic 125, 3)) rfl (by decide +kernel) (by decide +kernel) rfl rfl (zok_S rfl (by decide) (by decide +kernel) rfl (Nat.le_of_ble_eq_true rfl)) h (fun r4 s3 h => ?_)
    refine Fr.if0 (q := 23) (by decide +kernel : zi 207 11 = some (.ifCond .eq 12, 3)) (by decide +kernel) (fun g9 => ?_) (fun g9 => ?_)
    · have h := h.1 g9
      refine Fr.bipush (by decide +kernel : zi 207 23 = some (.bipush (-5), 2)) (by decide) ?_
      exact Fr.retI (by decide +kernel : zi 207 25 = some (.ireturn, 1)) (by decide +kernel) h
    · have h := h.2 g9
      refine Fr.aldn (c := 73) (by decide +kernel : zi 207 14 = some (.aload_n 0, 1)) rfl ⟨by omega, by omega⟩ ?_
      refine Fr.ildn (by decide +kernel : zi 207 15 = some (.iload_n 1, 1)) rfl ?_
      refine Fr.ildn (by decide +kernel : zi 207 16 = some (.iload_n 2, 1)) rfl ?_
      refine Fr.callI (y2 := 203) (na := 3) (as := [rf 73, it v1, it v2]) (rest := []) (by decide +kernel : zi 207 17 = some (.invokevirtual 323, 3)) rfl (by decide +kernel) (by decide +kernel) rfl rfl (zok_V rfl (by decide) (by decide +kernel) (by decide +kernel) (zrecv_c (c := 72) (by decide) (by decide +kernel)) rfl (Nat.le_of_ble_eq_true rfl)) h (fun r6 s5 h => ?_)
      refine Fr.goto (q := 25) (by decide +kernel : zi 207 20 = some (.goto 5, 3)) (by decide +kernel) ?_
      exact Fr.retI (by decide +kernel : zi 207 25 = some (.ireturn, 1)) (by decide +kernel) h
theorem e207 {xs : Nat → Int} {L : Nat} {d : Nat} {v1 : Int} {v2 : Int} {s : Pl} {Q : Option AV → Pl → Prop} (hd : 1 ≤ d) (k : Fr xs L T0 106 (d - 1) 207 0 [some (rf 73), some (it v1), some (it v2)] [] s Q) : Ev xs L T0 106 d 207 [rf 73, it v1, it v2] s Q := Ev.of (by decide) _ rfl hd k
-- 208 X8_help
theorem f208_0 {xs : Nat → Int} {L : Nat} {d : Nat} {v1 : Int} {s : Pl} {P : Int → Pl → Prop} (h : Ev xs L T0 106 d 132 [it v1, it 0, it 1] s (qi fun r2 s1 => ((¬ r2 = 0 → ((¬ s1 72 3 = 6 → Ev xs L T0 106 d 197 [rf 73, it 0] s1 (qi fun r4 s3 => ((r4 < 0 → (0 ≤ s3 72 3 ∧ s3 72 3 < 7) ∧ (0 ≤ s3 72 3 ∧ s3 72 3 < 7) ∧ (0 ≤ s3 72 3 ∧ s3 72 3 < 7) ∧ (0 ≤ s3 72 3 ∧ s3 72 3 < 7) ∧ (0 ≤ s3 72 3 ∧ s3 72 3 < 7) ∧ (0 ≤ s3 72 3 ∧ s3 72 3 < 7) ∧ Fr xs L T0 106 d 208 99 [some (rf 73), some (it v1), some (it (s3 72 3)), some (it (-1)), some (it (-1)), some (it 0)] [] (zup (zup (zup (zup (zup (zup (zup s3 74 (s3 72 3) 3) 76 (s3 72 3) 0) 77 (s3 72 3) 0) 78 (s3 72 3) 0) 79 (s3 72 3) 0) 80 (s3 72 3) 0) 72 3 (zw (((zup (zup (zup (zup (zup (zup s3 74 (s3 72 3) 3) 76 (s3 72 3) 0) 77 (s3 72 3) 0) 78 (s3 72 3) 0) 79 (s3 72 3) 0) 80 (s3 72 3) 0) 72 3) + 1))) (qi P)) ∧ (¬ (r4 < 0) → P (-1) s3)))) ∧ (¬ (¬ s1 72 3 = 6) → P (-3) s1))) ∧ (¬ (¬ r2 = 0) → P (-2) s1)))) : Fr xs L T0 106 d 208 0 [some (rf 73), some (it v1), none, none, none, none] [] s (qi P) := by
  refine Fr.ildn (by decide +kernel : zi 208 0 = some (.iload_n 1, 1)) rfl ?_
  refine Fr.iconst (by decide +kernel : zi 208 1 = some (.iconst 0, 1)) (by decide) ?_
  refine Fr.iconst (by decide +kernel : zi 208 2 = some (.iconst 1, 1)) (by decide) ?_
  refine Fr.callI (y2 := 132) (na := 3) (as := [it v1, it 0, it 1]) (rest := []) (by decide +kernel : zi 208 3 = some (.invokestatic 118, 3)) rfl (by decide +kernel) (by decide +kernel) rfl rfl (zok_S rfl (by decide) (by decide +kernel) rfl (Nat.le_of_ble_eq_true rfl)) h (fun r2 s1 h => ?_)
  refine Fr.if0 (q := 12) (by decide +kernel : zi 208 6 = some (.ifCond .ne 6, 3)) (by decide +kernel) (fun g9 => ?_) (fun g9 => ?_)
  · have h := h.1 g9
    refine Fr.aldn (c := 73) (by decide +kernel : zi 208 12 = some (.aload_n 0, 1)) rfl ⟨by omega, by omega⟩ ?_
    refine Fr.gI (c := 72) (ci := 8) (k := 3) (t := 0) 3 (by decide +kernel : zi 208 13 = some (.getfield 122, 3)) (by decide +kernel) (by decide +kernel) (by decide +kernel) (by decide) rfl ?_
    refine Fr.bipush (by decide +kernel : zi 208 16 = some (.bipush 6, 2)) (by decide) ?_
    refine Fr.if2 (q := 24) (by decide +kernel : zi 208 18 = some (.if_icmp .ne 6, 3)) (by decide +kernel) (fun g9 => ?_) (fun g9 => ?_)
    · have h := h.1 g9
      refine Fr.aldn (c := 73) (by decide +kernel : zi 208 24 = some (.aload_n 0, 1)) rfl ⟨by omega, by omega⟩ ?_
      refine Fr.iconst (by decide +kernel : zi 208 25 = some (.iconst 0, 1)) (by decide) ?_
      refine Fr.callI (y2 := 197) (na := 2) (as := [rf 73, it 0]) (rest := []) (by decide +kernel : zi 208 26 = some (.invokevirtual 317, 3)) rfl (by decide +kernel) (by decide +kernel) rfl rfl (zok_V rfl (by decide) (by decide +kernel) (by decide +kernel) (zrecv_c (c := 72) (by decide) (by decide +kernel)) rfl (Nat.le_of_ble_eq_true rfl)) h (fun r4 s3 h => ?_)
      refine Fr.if0 (q := 34) (by decide +kernel : zi 208 29 = some (.ifCond .lt 5, 3)) (by decide +kernel) (fun g9 => ?_) (fun g9 => ?_)
      · have h := h.1 g9
        refine Fr.aldn (c := 73) (by decide +kernel : zi 208 34 = some (.aload_n 0, 1)) rfl ⟨by omega, by omega⟩ ?_
        refine Fr.gI (c := 72) (ci := 8) (k := 3) (t := 0) 3 (by decide +kernel : zi 208 35 = some (.getfield 122, 3)) (by decide +kernel) (by decide +kernel) (by decide +kernel) (by decide) rfl ?_
        refine Fr.istn (lv2 := [some (rf 73), some (it v1), some (it (s3 72 3)), none, none, none]) (by decide +kernel : zi 208 38 = some (.istore_n 2, 1)) (Nat.le_of_ble_eq_true rfl) rfl ?_
        refine Fr.aldn (c := 73) (by decide +kernel : zi 208 39 = some (.aload_n 0, 1)) rfl ⟨by omega, by omega⟩ ?_
        refine Fr.gR (c := 72) (c2 := 75) (ci := 8) (k := 4) 4 (by decide +kernel : zi 208 40 = some (.getfield 13, 3)) (by decide +kernel) (by decide +kernel) (by decide +kernel) (by decide) rfl (fun q => q (72, 4, 75) (by decide +kernel)) ?_
        refine Fr.ildn (by decide +kernel : zi 208 43 = some (.iload_n 2, 1)) rfl ?_
        refine Fr.iconst (by decide +kernel : zi 208 44 = some (.iconst 3, 1)) (by decide) ?_
        obtain ⟨⟨g0, g1⟩, h⟩ := h
        refine Fr.iast (c := 74) (N := 7) (by decide +kernel : zi 208 45 = some (.iastore, 1)) (by decide +kernel) (by decide) g0 g1 ?_
        refine Fr.aldn (c := 73) (by decide +kernel : zi 208 46 = some (.aload_n 0, 1)) rfl ⟨by omega, by omega⟩ ?_
        refine Fr.gR (c := 72) (c2 := 77) (ci := 8) (k := 6) 6 (by decide +kernel : zi 208 47 = some (.getfield 19, 3)) (by decide +kernel) (by decide +kernel) (by decide +kernel) (by decide) rfl (fun q => q (72, 6, 77) (by decide +kernel)) ?_
        refine Fr.ildn (by decide +kernel : zi 208 50 = some (.iload_n 2, 1)) rfl ?_
        refine Fr.iconst (by decide +kernel : zi 208 51 = some (.iconst 0, 1)) (by decide) ?_
        obtain ⟨⟨g0, g1⟩, h⟩ := h
        refine Fr.iast (c := 76) (N := 7) (by decide +kernel : zi 208 52 = some (.iastore, 1)) (by decide +kernel) (by decide) g0 g1 ?_
        refine Fr.aldn (c := 73) (by decide +kernel : zi 208 53 = some (.aload_n 0, 1)) rfl ⟨by omega, by omega⟩ ?_
        refine Fr.gR (c := 72) (c2 := 78) (ci := 8) (k := 7) 7 (by decide +kernel : zi 208 54 = some (.getfield 22, 3)) (by decide +kernel) (by decide +kernel) (by decide +kernel) (by decide) rfl (fun q => q (72, 7, 78) (by decide +kernel)) ?_
        refine Fr.ildn (by decide +kernel : zi 208 57 = some (.iload_n 2, 1)) rfl ?_
        refine Fr.iconst (by decide +kernel : zi 208 58 = some (.iconst 0, 1)) (by decide) ?_
        obtain ⟨⟨g0, g1⟩, h⟩ := h
        refine Fr.iast (c := 77) (N := 7) (by decide +kernel : zi 208 59 = some (.iastore, 1)) (by decide +kernel) (by decide) g0 g1 ?_
        refine Fr.aldn (c := 73) (by decide +kernel : zi 208 60 = some (.aload_n 0, 1)) rfl ⟨by omega, by omega⟩ ?_
        refine Fr.gR (c := 72) (c2 := 79) (ci := 8) (k := 8) 8 (by decide +kernel : zi 208 61 = some (.getfield 25, 3)) (by decide +kernel) (by decide +kernel) (by decide +kernel) (by decide) rfl (fun q => q (72, 8, 79) (by decide +kernel)) ?_
        refine Fr.ildn (by decide +kernel : zi 208 64 = some (.iload_n 2, 1)) rfl ?_
        refine Fr.iconst (by decide +kernel : zi 208 65 = some (.iconst 0, 1)) (by decide) ?_
        obtain ⟨⟨g0, g1⟩, h⟩ := h
        refine Fr.iast (c := 78) (N := 7) (by decide +kernel : zi 208 66 = some (.iastore, 1)) (by decide +kernel) (by decide) g0 g1 ?_
        refine Fr.aldn (c := 73) (by decide +kernel : zi 208 67 = some (.aload_n 0, 1)) rfl ⟨by omega, by omega⟩ ?_
        refine Fr.gR (c := 72) (c2 := 80) (ci := 8) (k := 9) 9 (by decide +kernel : zi 208 68 = some (.getfield 28, 3)) (by decide +kernel) (by decide +kernel) (by decide +kernel) (by decide) rfl (fun q => q (72, 9, 80) (by decide +kernel)) ?_
        refine Fr.ildn (by decide +kernel : zi 208 71 = some (.iload_n 2, 1)) rfl ?_
        refine Fr.iconst (by decide +kernel : zi 208 72 = some (.iconst 0, 1)) (by decide) ?_
        obtain ⟨⟨g0, g1⟩, h⟩ := h
        refine Fr.iast (c := 79) (N := 7) (by decide +kernel : zi 208 73 = some (.iastore, 1)) (by decide +kernel) (by decide) g0 g1 ?_
        refine Fr.aldn (c := 73) (by decide +kernel : zi 208 74 = some (.aload_n 0, 1)) rfl ⟨by omega, by omega⟩ ?_
        refine Fr.gR (c := 72) (c2 := 81) (ci := 8) (k := 10) 10 (by decide +kernel : zi 208 75 = some (.getfield 31, 3)) (by decide +kernel) (by decide +kernel) (by decide +kernel) (by decide) rfl (fun q => q (72, 10, 81) (by decide +kernel)) ?_
        refine Fr.ildn (by decide +kernel : zi 208 78 = some (.iload_n 2, 1)) rfl ?_
        refine Fr.iconst (by decide +kernel : zi 208 79 = some (.iconst 0, 1)) (by decide) ?_
        obtain ⟨⟨g0, g1⟩, h⟩ := h
        refine Fr.iast (c := 80) (N := 7) (by decide +kernel : zi 208 80 = some (.iastore, 1)) (by decide +kernel) (by decide) g0 g1 ?_
        refine Fr.aldn (c := 73) (by decide +kernel : zi 208 81 = some (.aload_n 0, 1)) rfl ⟨by omega, by omega⟩ ?_
        refine Fr.dup (by decide +kernel : zi 208 82 = some (.dup, 1)) rfl ?_
        refine Fr.gI (c := 72) (ci := 8) (k := 3) (t := 0) 3 (by decide +kernel : zi 208 83 = some (.getfield 122, 3)) (by decide +kernel) (by decide +kernel) (by decide +kernel) (by decide) rfl ?_
        refine Fr.iconst (by decide +kernel : zi 208 86 = some (.iconst 1, 1)) (by decide) ?_
        refine Fr.iadd (by decide +kernel : zi 208 87 = some (.iadd, 1)) ?_
        refine Fr.pI (c := 72) (ci := 8) (k := 3) 3 (by decide +kernel : zi 208 88 = some (.putfield 122, 3)) (by decide +kernel) (by decide +kernel) (by decide +kernel) (by decide) rfl ?_
        refine Fr.iconst (by decide +kernel : zi 208 91 = some (.iconst (-1), 1)) (by decide) ?_
        refine Fr.istn (lv2 := [some (rf 73), some (it v1), some (it (s3 72 3)), some (it (-1)), none, none]) (by decide +kernel : zi 208 92 = some (.istore_n 3, 1)) (Nat.le_of_ble_eq_true rfl) rfl ?_
        refine Fr.iconst (by decide +kernel : zi 208 93 = some (.iconst (-1), 1)) (by decide) ?_
        refine Fr.ist (lv2 := [some (rf 73), some (it v1), some (it (s3 72 3)), some (it (-1)), some (it (-1)), none]) (by decide +kernel : zi 208 94 = some (.istore 4, 2)) (Nat.le_of_ble_eq_true rfl) rfl ?_
        refine Fr.iconst (by decide +kernel : zi 208 96 = some (.iconst 0, 1)) (by decide) ?_
        refine Fr.ist (lv2 := [some (rf 73), some (it v1), some (it (s3 72 3)), some (it (-1)), some (it (-1)), some (it 0)]) (by decide +kernel : zi 208 97 = some (.istore 5, 2)) (Nat.le_of_ble_eq_true rfl) rfl ?_
        exact h
      · have h := h.2 g9
        refine Fr.iconst (by decide +kernel : zi 208 32 = some (.iconst (-1), 1)) (by decide) ?_
        exact Fr.retI (by decide +kernel : zi 208 33 = some (.ireturn, 1)) (by decide +kernel) h
    · have h := h.2 g9
      refine Fr.bipush (by decide +kernel : zi 208 21 = some (.bipush (-3), 2)) (by decide) ?_
      exact Fr.retI (by decide +kernel : zi 208 23 = some (.ireturn, 1)) (by decide +kernel) h
  · have h := h.2 g9
    refine Fr.bipush (by decide +kernel : zi 208 9 = some (.bipush (-2), 2)) (by decide) ?_
    exact Fr.retI (by decide +kernel : zi 208 11 = some (.ireturn, 1)) (by decide +kernel) h
theorem e208 {xs : Nat → Int} {L : Nat} {d : Nat} {v1 : Int} {s : Pl} {Q : Option AV → Pl → Prop} (hd : 1 ≤ d) (k : Fr xs L T0 106 (d - 1) 208 0 [some (rf 73), some (it v1), none, none, none, none] [] s Q) : Ev xs L T0 106 d 208 [rf 73, it v1] s Q := Ev.of (by decide) _ rfl hd k
theorem f208_99 {xs : Nat → Int} {L : Nat} {d : Nat} {v1 : Int} {v2 : Int} {v3 : Int} {v4 : Int} {v5 : Int} {s : Pl} {P : Int → Pl → Prop} (h : ((4 ≤ v5 → Fr xs L T0 106 d 208 138 [some (rf 73), some (it v1), some (it v2), some (it v3), some (it v4), some (it v5)] [] s (qi P)) ∧ (¬ (4 ≤ v5) → ((0 ≤ v3 → Fr xs L T0 106 d 208 138 [some (rf 73), some (it v1), some (it v2), some (it v3), some (it v4), some (it v5)] [] s (qi P)) ∧ (¬ (0 ≤ v3) → (0 ≤ v2 ∧ v2 < 7) ∧ Ev xs L T0 106 d 197 [rf 73, it 0] (zup s 75 v2 v5) (qi fun r2 s1 => ((r2 < 0 → Fr xs L T0 106 d 208 132 [some (rf 73), some (it v1), some (it v2), some (it v3), some (it r2), some (it v5)] [] s1 (qi P)) ∧ (¬ (r2 < 0) → Fr xs L T0 106 d 208 132 [some (rf 73), some (it v1), some (it v2), some (it v5), some (it r2), some (it v5)] [] s1 (qi P))))))))) : Fr xs L T0 106 d 208 99 [some (rf 73), some (it v1), some (it v2), some (it v3), some (it v4), some (it v5)] [] s (qi P) := by
  refine Fr.ild (by decide +kernel : zi 208 99 = some (.iload 5, 2)) rfl ?_
  refine Fr.iconst (by decide +kernel : zi 208 101 = some (.iconst 4, 1)) (by decide) ?_
  refine Fr.if2 (q := 138) (by decide +kernel : zi 208 102 = some (.if_icmp .ge 36, 3)) (by decide +kernel) (fun g9 => ?_) (fun g9 => ?_)
  · have h := h.1 g9
    exact h
  · have h := h.2 g9
    refine Fr.ildn (by decide +kernel : zi 208 105 = some (.iload_n 3, 1)) rfl ?_
    refine Fr.if0 (q := 138) (by decide +kernel : zi 208 106 = some (.ifCond .ge 32, 3)) (by decide +kernel) (fun g9 => ?_) (fun g9 => ?_)
    · have h := h.1 g9
      exact h
    · have h := h.2 g9
      refine Fr.aldn (c := 73) (by decide +kernel : zi 208 109 = some (.aload_n 0, 1)) rfl ⟨by omega, by omega⟩ ?_
      refine Fr.gR (c := 72) (c2 := 76) (ci := 8) (k := 5) 5 (by decide +kernel : zi 208 110 = some (.getfield 16, 3)) (by decide +kernel) (by decide +kernel) (by decide +kernel) (by decide) rfl (fun q => q (72, 5, 76) (by decide +kernel)) ?_
      refine Fr.ildn (by decide +kernel : zi 208 113 = some (.iload_n 2, 1)) rfl ?_
      refine Fr.ild (by decide +kernel : zi 208 114 = some (.iload 5, 2)) rfl ?_
      obtain ⟨⟨g0, g1⟩, h⟩ := h
      refine Fr.iast (c := 75) (N := 7) (by decide +kernel : zi 208 116 = some (.iastore, 1)) (by decide +kernel) (by decide) g0 g1 ?_
      refine Fr.aldn (c := 73) (by decide +kernel : zi 208 117 = some (.aload_n 0, 1)) rfl ⟨by omega, by omega⟩ ?_
      refine Fr.iconst (by decide +kernel : zi 208 118 = some (.iconst 0, 1)) (by decide) ?_
      refine Fr.callI (y2 := 197) (na := 2) (as := [rf 73, it 0]) (rest := []) (by decide +kernel : zi 208 119 = some (.invokevirtual 317, 3)) rfl (by decide +kernel) (by decide +kernel) rfl rfl (zok_V rfl (by decide) (by decide +kernel) (by decide +kernel) (zrecv_c (c := 72) (by decide) (by decide +kernel)) rfl (Nat.le_of_ble_eq_true rfl)) h (fun r2 s1 h => ?_)
      refine Fr.ist (lv2 := [some (rf 73), some (it v1), some (it v2), some (it v3), some (it r2), some (it v5)]) (by decide +kernel : zi 208 122 = some (.istore 4, 2)) (Nat.le_of_ble_eq_true rfl) rfl ?_
      refine Fr.ild (by decide +kernel : zi 208 124 = some (.iload 4, 2)) rfl ?_
      refine Fr.if0 (q := 132) (by decide +kernel : zi 208 126 = some (.ifCond .lt 6, 3)) (by decide +kernel) (fun g9 => ?_) (fun g9 => ?_)
      · have h := h.1 g9
        exact h
      · have h := h.2 g9
        refine Fr.ild (by decide +kernel : zi 208 129 = some (.iload 5, 2)) rfl ?_
        refine Fr.istn (lv2 := [some (rf 73), some (it v1), some (it v2), some (it v5), some (it r2), some (it v5)]) (by decide +kernel : zi 208 131 = some (.istore_n 3, 1)) (Nat.le_of_ble_eq_true rfl) rfl ?_
        exact h
theorem f208_132 {xs : Nat → Int} {L : Nat} {d : Nat} {v1 : Int} {v2 : Int} {v3 : Int} {v4 : Int} {v5 : Int} {s : Pl} {P : Int → Pl → Prop} (h : Fr xs L T0 106 d 208 99 [some (rf 73), some (it v1), some (it v2), some (it v3), some (it v4), some (it (zw (v5 + 1)))] [] s (qi P)) : Fr xs L T0 106 d 208 132 [some (rf 73), some (it v1), some (it v2), some (it v3), some (it v4), some (it v5)] [] s (qi P) := by
  refine Fr.iinc (lv2 := [some (rf 73), some (it v1), some (it v2), some (it v3), some (it v4), some (it (zw (v5 + 1)))]) (by decide +kernel : zi 208 132 = some (.iinc 5 1, 3)) (Nat.le_of_ble_eq_true rfl) rfl rfl ?_
  refine Fr.goto (q := 99) (by decide +kernel : zi 208 135 = some (.goto (-36), 3)) (by decide +kernel) ?_
  exact h
theorem f208_138 {xs : Nat → Int} {L : Nat} {d : Nat} {v1 : Int} {v2 : Int} {v3 : Int} {v4 : Int} {v5 : Int} {s : Pl} {P : Int → Pl → Prop} (h : ((v3 < 0 → Fr xs L T0 106 d 208 156 [some (rf 73), some (it v1), some (it v2), some (it v3), some (it v4), some (it v5)] [] (zup s 72 3 (zw ((s 72 3) - 1))) (qi P)) ∧ (¬ (v3 < 0) → ((¬ v1 = 0 → P v4 (zup s 72 3 (zw ((s 72 3) - 1)))) ∧ (¬ (¬ v1 = 0) → Fr xs L T0 106 d 208 156 [some (rf 73), some (it v1), some (it v2), some (it v3), some (it v4), some (it v5)] [] (zup s 72 3 (zw ((s 72 3) - 1))) (qi P)))))) : Fr xs L T0 106 d 208 138 [some (rf 73), some (it v1), some (it v2), some (it v3), some (it v4), some (it v5)] [] s (qi P) := by
  refine Fr.aldn (c := 73) (by decide +kernel : zi 208 138 = some (.aload_n 0, 1)) rfl ⟨by omega, by omega⟩ ?_
  refine Fr.dup (by decide +kernel : zi 208 139 = some (.dup, 1)) rfl ?_
  refine Fr.gI (c := 72) (ci := 8) (k := 3) (t := 0) 3 (by decide +kernel : zi 208 140 = some (.getfield 122, 3)) (by decide +kernel) (by decide +kernel) (by decide +kernel) (by decide) rfl ?_
  refine Fr.iconst (by decide +kernel : zi 208 143 = some (.iconst 1, 1)) (by decide) ?_
  refine Fr.isub (by decide +kernel : zi 208 144 = some (.isub, 1)) ?_
  refine Fr.pI (c := 72) (ci := 8) (k := 3) 3 (by decide +kernel : zi 208 145 = some (.putfield 122, 3)) (by decide +kernel) (by decide +kernel) (by decide +kernel) (by decide) rfl ?_
  refine Fr.ildn (by decide +kernel : zi 208 148 = some (.iload_n 3, 1)) rfl ?_
  refine Fr.if0 (q := 156) (by decide +kernel : zi 208 149 = some (.ifCond .lt 7, 3)) (by decide +kernel) (fun g9 => ?_) (fun g9 => ?_)
  · have h := h.1 g9
    exact h
  · have h := h.2 g9
    refine Fr.ildn (by decide +kernel : zi 208 152 = some (.iload_n 1, 1)) rfl ?_
    refine Fr.if0 (q := 160) (by decide +kernel : zi 208 153 = some (.ifCond .ne 7, 3)) (by decide +kernel) (fun g9 => ?_) (fun g9 => ?_)
    · have h := h.1 g9
      refine Fr.ild (by decide +kernel : zi 208 160 = some (.iload 4, 2)) rfl ?_
      exact Fr.retI (by decide +kernel : zi 208 162 = some (.ireturn, 1)) (by decide +kernel) h
    · have h := h.2 g9
      exact h
theorem f208_156 {xs : Nat → Int} {L : Nat} {d : Nat} {v1 : Int} {v2 : Int} {v3 : Int} {v4 : Int} {v5 : Int} {s : Pl} {P : Int → Pl → Prop} (h : P v3 s) : Fr xs L T0 106 d 208 156 [some (rf 73), some (it v1), some (it v2), some (it v3), some (it v4), some (it v5)] [] s (qi P) := by
  refine Fr.ildn (by decide +kernel : zi 208 156 = some (.iload_n 3, 1)) rfl ?_
  refine Fr.goto (q := 162) (by decide +kernel : zi 208 157 = some (.goto 5, 3)) (by decide +kernel) ?_
  exact Fr.retI (by decide +kernel : zi 208 162 = some (.ireturn, 1)) (by decide +kernel) h
-- 209 X8_laws
theorem f209_0 {xs : Nat → Int} {L : Nat} {d : Nat}  {s : Pl} {P : Int → Pl → Prop} (h : Fr xs L T0 106 d 209 9 [some (rf 73), some (it (s 72 14)), some (it 0), some (it 0)] [] s (qi P)) : Fr xs L T0 106 d 209 0 [some (rf 73), none, none, none] [] s (qi P) := by
  refine Fr.aldn (c := 73) (by decide +kernel : zi 209 0 = some (.aload_n 0, 1)) rfl ⟨by omega, by omega⟩ ?_
  refine Fr.gI (c := 72) (ci := 8) (k := 14) (t := 0) 14 (by decide +kernel : zi 209 1 = some (.getfield 139, 3)) (by decide +kernel) (by decide +kernel) (by decide +kernel) (by decide) rfl ?_
  refine Fr.istn (lv2 := [some (rf 73), some (it (s 72 14)), none, none]) (by decide +kernel : zi 209 4 = some (.istore_n 1, 1)) (Nat.le_of_ble_eq_true rfl) rfl ?_
  refine Fr.iconst (by decide +kernel : zi 209 5 = some (.iconst 0, 1)) (by decide) ?_
  refine Fr.istn (lv2 := [some (rf 73), some (it (s 72 14)), some (it 0), none]) (by decide +kernel : zi 209 6 = some (.istore_n 2, 1)) (Nat.le_of_ble_eq_true rfl) rfl ?_
  refine Fr.iconst (by decide +kernel : zi 209 7 = some (.iconst 0, 1)) (by decide) ?_
  refine Fr.istn (lv2 := [some (rf 73), some (it (s 72 14)), some (it 0), some (it 0)]) (by decide +kernel : zi 209 8 = some (.istore_n 3, 1)) (Nat.le_of_ble_eq_true rfl) rfl ?_
  exact h
theorem e209 {xs : Nat → Int} {L : Nat} {d : Nat}  {s : Pl} {Q : Option AV → Pl → Prop} (hd : 1 ≤ d) (k : Fr xs L T0 106 (d - 1) 209 0 [some (rf 73), none, none, none] [] s Q) : Ev xs L T0 106 d 209 [rf 73] s Q := Ev.of (by decide) _ rfl hd k
theorem f209_9 {xs : Nat → Int} {L : Nat} {d : Nat} {v1 : Int} {v2 : Int} {v3 : Int} {s : Pl} {P : Int → Pl → Prop} (h : ((s 72 13 ≤ v3 → P v2 (zup s 72 14 v1)) ∧ (¬ (s 72 13 ≤ v3) → Ev xs L T0 106 d 197 [rf 73, it 0] (zup s 72 14 v3) (qi fun r2 s1 => ((r2 < 0 → Fr xs L T0 106 d 209 36 [some (rf 73), some (it v1), some (it v2), some (it v3)] [] s1 (qi P)) ∧ (¬ (r2 < 0) → Fr xs L T0 106 d 209 36 [some (rf 73), some (it v1), some (it (zor v2 (zshl 1 v3))), some (it v3)] [] s1 (qi P))))))) : Fr xs L T0 106 d 209 9 [some (rf 73), some (it v1), some (it v2), some (it v3)] [] s (qi P) := by
  refine Fr.ildn (by decide +kernel : zi 209 9 = some (.iload_n 3, 1)) rfl ?_
  refine Fr.aldn (c := 73) (by decide +kernel : zi 209 10 = some (.aload_n 0, 1)) rfl ⟨by omega, by omega⟩ ?_
  refine Fr.gI (c := 72) (ci := 8) (k := 13) (t := 0) 13 (by decide +kernel : zi 209 11 = some (.getfield 38, 3)) (by decide +kernel) (by decide +kernel) (by decide +kernel) (by decide) rfl ?_
  refine Fr.if2 (q := 42) (by decide +kernel : zi 209 14 = some (.if_icmp .ge 28, 3)) (by decide +kernel) (fun g9 => ?_) (fun g9 => ?_)
  · have h := h.1 g9
    refine Fr.aldn (c := 73) (by decide +kernel : zi 209 42 = some (.aload_n 0, 1)) rfl ⟨by omega, by omega⟩ ?_
    refine Fr.ildn (by decide +kernel : zi 209 43 = some (.iload_n 1, 1)) rfl ?_
    refine Fr.pI (c := 72) (ci := 8) (k := 14) 14 (by decide +kernel : zi 209 44 = some (.putfield 139, 3)) (by decide +kernel) (by decide +kernel) (by decide +kernel) (by decide) rfl ?_
    refine Fr.ildn (by decide +kernel : zi 209 47 = some (.iload_n 2, 1)) rfl ?_
    exact Fr.retI (by decide +kernel : zi 209 48 = some (.ireturn, 1)) (by decide +kernel) h
  · have h := h.2 g9
    refine Fr.aldn (c := 73) (by decide +kernel : zi 209 17 = some (.aload_n 0, 1)) rfl ⟨by omega, by omega⟩ ?_
    refine Fr.ildn (by decide +kernel : zi 209 18 = some (.iload_n 3, 1)) rfl ?_
    refine Fr.pI (c := 72) (ci := 8) (k := 14) 14 (by decide +kernel : zi 209 19 = some (.putfield 139, 3)) (by decide +kernel) (by decide +kernel) (by decide +kernel) (by decide) rfl ?_
    refine Fr.aldn (c := 73) (by decide +kernel : zi 209 22 = some (.aload_n 0, 1)) rfl ⟨by omega, by omega⟩ ?_
    refine Fr.iconst (by decide +kernel : zi 209 23 = some (.iconst 0, 1)) (by decide) ?_
    refine Fr.callI (y2 := 197) (na := 2) (as := [rf 73, it 0]) (rest := []) (by decide +kernel : zi 209 24 = some (.invokevirtual 317, 3)) rfl (by decide +kernel) (by decide +kernel) rfl rfl (zok_V rfl (by decide) (by decide +kernel) (by decide +kernel) (zrecv_c (c := 72) (by decide) (by decide +kernel)) rfl (Nat.le_of_ble_eq_true rfl)) h (fun r2 s1 h => ?_)
    refine Fr.if0 (q := 36) (by decide +kernel : zi 209 27 = some (.ifCond .lt 9, 3)) (by decide +kernel) (fun g9 => ?_) (fun g9 => ?_)
    · have h := h.1 g9
      exact h
    · have h := h.2 g9
      refine Fr.ildn (by decide +kernel : zi 209 30 = some (.iload_n 2, 1)) rfl ?_
      refine Fr.iconst (by decide +kernel : zi 209 31 = some (.iconst 1, 1)) (by decide) ?_
      refine Fr.ildn (by decide +kernel : zi 209 32 = some (.iload_n 3, 1)) rfl ?_
      refine Fr.ishl (by decide +kernel : zi 209 33 = some (.ishl, 1)) ?_
      refine Fr.ior (by decide +kernel : zi 209 34 = some (.ior, 1)) ?_
      refine Fr.istn (lv2 := [some (rf 73), some (it v1), some (it (zor v2 (zshl 1 v3))), some (it v3)]) (by decide +kernel : zi 209 35 = some (.istore_n 2, 1)) (Nat.le_of_ble_eq_true rfl) rfl ?_
      exact h
theorem f209_36 {xs : Nat → Int} {L : Nat} {d : Nat} {v1 : Int} {v2 : Int} {v3 : Int} {s : Pl} {P : Int → Pl → Prop} (h : Fr xs L T0 106 d 209 9 [some (rf 73), some (it v1), some (it v2), some (it (zw (v3 + 1)))] [] s (qi P)) : Fr xs L T0 106 d 209 36 [some (rf 73), some (it v1), some (it v2), some (it v3)] [] s (qi P) := by
  refine Fr.iinc (lv2 := [some (rf 73), some (it v1), some (it v2), some (it (zw (v3 + 1)))]) (by decide +kernel : zi 209 36 = some (.iinc 3 1, 3)) (Nat.le_of_ble_eq_true rfl) rfl rfl ?_
  refine Fr.goto (q := 9) (by decide +kernel : zi 209 39 = some (.goto (-30), 3)) (by decide +kernel) ?_
  exact h
-- 210 X8_join
theorem f210_0 {xs : Nat → Int} {L : Nat} {d : Nat} {v1 : Int} {v2 : Int} {s : Pl} {P : Int → Pl → Prop} (h : Ev xs L T0 106 d 134 [it v1] s (qi fun r2 s1 => ((r2 = 0 → P (-5) s1) ∧ (¬ (r2 = 0) → Ev xs L T0 106 d 134 [it v2] s1 (qi fun r4 s3 => ((r4 = 0 → P (-5) s3) ∧ (¬ (r4 = 0) → ((¬ v1 = v2 → (0 ≤ zw ((zw (4 * v1)) + v2) ∧ zw ((zw (4 * v1)) + v2) < 16) ∧ (0 ≤ zw ((zw (4 * v1)) + v2) ∧ zw ((zw (4 * v1)) + v2) < 16) ∧ (0 ≤ zw ((zw (4 * v2)) + v1) ∧ zw ((zw (4 * v2)) + v1) < 16) ∧ Ev xs L T0 106 d 197 [rf 73, it 0] (zup (zup s3 73 (zw ((zw (4 * v1)) + v2)) 1) 73 (zw ((zw (4 * v2)) + v1)) 1) (qi fun r6 s5 => (0 ≤ zw ((zw (4 * v1)) + v2) ∧ zw ((zw (4 * v1)) + v2) < 16) ∧ (0 ≤ zw ((zw (4 * v2)) + v1) ∧ zw ((zw (4 * v2)) + v1) < 16) ∧ P r6 (zup (zup s5 73 (zw ((zw (4 * v1)) + v2)) (s3 73 (zw ((zw (4 * v1)) + v2)))) 73 (zw ((zw (4 * v2)) + v1)) (s3 73 (zw ((zw (4 * v1)) + v2)))))) ∧ (¬ (¬ v1 = v2) → P (-5) s3))))))))) : Fr xs L T0 106 d 210 0 [some (rf 73), some (it v1), some (it v2), none, none] [] s (qi P) := by
  refine Fr.ildn (by decide +kernel : zi 210 0 = some (.iload_n 1, 1)) rfl ?_
  refine Fr.callI (y2 := 134) (na := 1) (as := [it v1]) (rest := []) (by decide +kernel : zi 210 1 = some (.invokestatic 125, 3)) rfl (by decide +kernel) (by decide +kernel) rfl rfl (zok_S rfl (by decide) (by decide +kernel) rfl (Nat.le_of_ble_eq_true rfl)) h (fun r2 s1 h => ?_)
  refine Fr.if0 (q := 19) (by decide +kernel : zi 210 4 = some (.ifCond .eq 15, 3)) (by decide +kernel) (fun g9 => ?_) (fun g9 => ?_)
  · have h := h.1 g9
    refine Fr.bipush (by decide +kernel : zi 210 19 = some (.bipush (-5), 2)) (by decide) ?_
    exact Fr.retI (by decide +kernel : zi 210 21 = some (.ireturn, 1)) (by decide +kernel) h
  · have h := h.2 g9
    refine Fr.ildn (by decide +kernel : zi 210 7 = some (.iload_n 2, 1)) rfl ?_
    refine Fr.callI (y2 := 134) (na := 1) (as := [it v2]) (rest := []) (by decide +kernel : zi 210 8 = some (.invokestatic 125, 3)) rfl (by decide +kernel) (by decide +kernel) rfl rfl (zok_S rfl (by decide) (by decide +kernel) rfl (Nat.le_of_ble_eq_true rfl)) h (fun r4 s3 h => ?_)
    refine Fr.if0 (q := 19) (by decide +kernel : zi 210 11 = some (.ifCond .eq 8, 3)) (by decide +kernel) (fun g9 => ?_) (fun g9 => ?_)
    · have h := h.1 g9
      refine Fr.bipush (by decide +kernel : zi 210 19 = some (.bipush (-5), 2)) (by decide) ?_
      exact Fr.retI (by decide +kernel : zi 210 21 = some (.ireturn, 1)) (by decide +kernel) h
    · have h := h.2 g9
      refine Fr.ildn (by decide +kernel : zi 210 14 = some (.iload_n 1, 1)) rfl ?_
      refine Fr.ildn (by decide +kernel : zi 210 15 = some (.iload_n 2, 1)) rfl ?_
      refine Fr.if2 (q := 22) (by decide +kernel : zi 210 16 = some (.if_icmp .ne 6, 3)) (by decide +kernel) (fun g9 => ?_) (fun g9 => ?_)
      · have h := h.1 g9
        refine Fr.aldn (c := 73) (by decide +kernel : zi 210 22 = some (.aload_n 0, 1)) rfl ⟨by omega, by omega⟩ ?_
        refine Fr.gR (c := 72) (c2 := 74) (ci := 8) (k := 1) 1 (by decide +kernel : zi 210 23 = some (.getfield 7, 3)) (by decide +kernel) (by decide +kernel) (by decide +kernel) (by decide) rfl (fun q => q (72, 1, 74) (by decide +kernel)) ?_
        refine Fr.iconst (by decide +kernel : zi 210 26 = some (.iconst 4, 1)) (by decide) ?_
        refine Fr.ildn (by decide +kernel : zi 210 27 = some (.iload_n 1, 1)) rfl ?_
        refine Fr.imul (by decide +kernel : zi 210 28 = some (.imul, 1)) ?_
        refine Fr.ildn (by decide +kernel : zi 210 29 = some (.iload_n 2, 1)) rfl ?_
        refine Fr.iadd (by decide +kernel : zi 210 30 = some (.iadd, 1)) ?_
        obtain ⟨⟨g0, g1⟩, h⟩ := h
        refine Fr.iald (c := 73) (N := 16) (by decide +kernel : zi 210 31 = some (.iaload, 1)) (by decide +kernel) (by decide) g0 g1 ?_
        refine Fr.istn (lv2 := [some (rf 73), some (it v1), some (it v2), some (it (s3 73 (zw ((zw (4 * v1)) + v2)))), none]) (by decide +kernel : zi 210 32 = some (.istore_n 3, 1)) (Nat.le_of_ble_eq_true rfl) rfl ?_
        refine Fr.aldn (c := 73) (by decide +kernel : zi 210 33 = some (.aload_n 0, 1)) rfl ⟨by omega, by omega⟩ ?_
        refine Fr.gR (c := 72) (c2 := 74) (ci := 8) (k := 1) 1 (by decide +kernel : zi 210 34 = some (.getfield 7, 3)) (by decide +kernel) (by decide +kernel) (by decide +kernel) (by decide) rfl (fun q => q (72, 1, 74) (by decide +kernel)) ?_
        refine Fr.iconst (by decide +kernel : zi 210 37 = some (.iconst 4, 1)) (by decide) ?_
        refine Fr.ildn (by decide +kernel : zi 210 38 = some (.iload_n 1, 1)) rfl ?_
        refine Fr.imul (by decide +kernel : zi 210 39 = some (.imul, 1)) ?_
        refine Fr.ildn (by decide +kernel : zi 210 40 = some (.iload_n 2, 1)) rfl ?_
        refine Fr.iadd (by decide +kernel : zi 210 41 = some (.iadd, 1)) ?_
        refine Fr.iconst (by decide +kernel : zi 210 42 = some (.iconst 1, 1)) (by decide) ?_
        obtain ⟨⟨g0, g1⟩, h⟩ := h
        refine Fr.iast (c := 73) (N := 16) (by decide +kernel : zi 210 43 = some (.iastore, 1)) (by decide +kernel) (by decide) g0 g1 ?_
        refine Fr.aldn (c := 73) (by decide +kernel : zi 210 44 = some (.aload_n 0, 1)) rfl ⟨by omega, by omega⟩ ?_
        refine Fr.gR (c := 72) (c2 := 74) (ci := 8) (k := 1) 1 (by decide +kernel : zi 210 45 = some (.getfield 7, 3)) (by decide +kernel) (by decide +kernel) (by decide +kernel) (by decide) rfl (fun q => q (72, 1, 74) (by decide +kernel)) ?_
        refine Fr.iconst (by decide +kernel : zi 210 48 = some (.iconst 4, 1)) (by decide) ?_
        refine Fr.ildn (by decide +kernel : zi 210 49 = some (.iload_n 2, 1)) rfl ?_
        refine Fr.imul (by decide +kernel : zi 210 50 = some (.imul, 1)) ?_
        refine Fr.ildn (by decide +kernel : zi 210 51 = some (.iload_n 1, 1)) rfl ?_
        refine Fr.iadd (by decide +kernel : zi 210 52 = some (.iadd, 1)) ?_
        refine Fr.iconst (by decide +kernel : zi 210 53 = some (.iconst 1, 1)) (by decide) ?_
        obtain ⟨⟨g0, g1⟩, h⟩ := h
        refine Fr.iast (c := 73) (N := 16) (by decide +kernel : zi 210 54 = some (.iastore, 1)) (by decide +kernel) (by decide) g0 g1 ?_
        refine Fr.aldn (c := 73) (by decide +kernel : zi 210 55 = some (.aload_n 0, 1)) rfl ⟨by omega, by omega⟩ ?_
        refine Fr.iconst (by decide +kernel : zi 210 56 = some (.iconst 0, 1)) (by decide) ?_
        refine Fr.callI (y2 := 197) (na := 2) (as := [rf 73, it 0]) (rest := []) (by decide +kernel : zi 210 57 = some (.invokevirtual 317, 3)) rfl (by decide +kernel) (by decide +kernel) rfl rfl (zok_V rfl (by decide) (by decide +kernel) (by decide +kernel) (zrecv_c (c := 72) (by decide) (by decide +kernel)) rfl (Nat.le_of_ble_eq_true rfl)) h (fun r6 s5 h => ?_)
        refine Fr.ist (lv2 := [some (rf 73), some (it v1), some (it v2), some (it (s3 73 (zw ((zw (4 * v1)) + v2)))), some (it r6)]) (by decide +kernel : zi 210 60 = some (.istore 4, 2)) (Nat.le_of_ble_eq_true rfl) rfl ?_
        refine Fr.aldn (c := 73) (by decide +kernel : zi 210 62 = some (.aload_n 0, 1)) rfl ⟨by omega, by omega⟩ ?_
        refine Fr.gR (c := 72) (c2 := 74) (ci := 8) (k := 1) 1 (by decide +kernel : zi 210 63 = some (.getfield 7, 3)) (by decide +kernel) (by decide +kernel) (by decide +kernel) (by decide) rfl (fun q => q (72, 1, 74) (by decide +kernel)) ?_
        refine Fr.iconst (by decide +kernel : zi 210 66 = some (.iconst 4, 1)) (by decide) ?_
        refine Fr.ildn (by decide +kernel : zi 210 67 = some (.iload_n 1, 1)) rfl ?_
        refine Fr.imul (by decide +kernel : zi 210 68 = some (.imul, 1)) ?_
        refine Fr.ildn (by decide +kernel : zi 210 69 = some (.iload_n 2, 1)) rfl ?_
        refine Fr.iadd (by decide +kernel : zi 210 70 = some (.iadd, 1)) ?_
        refine Fr.ildn (by decide +kernel : zi 210 71 = some (.iload_n 3, 1)) rfl ?_
        obtain ⟨⟨g0, g1⟩, h⟩ := h
        refine Fr.iast (c := 73) (N := 16) (by decide +kernel : zi 210 72 = some (.iastore, 1)) (by decide +kernel) (by decide) g0 g1 ?_
        refine Fr.aldn (c := 73) (by decide +kernel : zi 210 73 = some (.aload_n 0, 1)) rfl ⟨by omega, by omega⟩ ?_
        refine Fr.gR (c := 72) (c2 := 74) (ci := 8) (k := 1) 1 (by decide +kernel : zi 210 74 = some (.getfield 7, 3)) (by decide +kernel) (by decide +kernel) (by decide +kernel) (by decide) rfl (fun q => q (72, 1, 74) (by decide +kernel)) ?_
        refine Fr.iconst (by decide +kernel : zi 210 77 = some (.iconst 4, 1)) (by decide) ?_
        refine Fr.ildn (by decide +kernel : zi 210 78 = some (.iload_n 2, 1)) rfl ?_
        refine Fr.imul (by decide +kernel : zi 210 79 = some (.imul, 1)) ?_
        refine Fr.ildn (by decide +kernel : zi 210 80 = some (.iload_n 1, 1)) rfl ?_
        refine Fr.iadd (by decide +kernel : zi 210 81 = some (.iadd, 1)) ?_
        refine Fr.ildn (by decide +kernel : zi 210 82 = some (.iload_n 3, 1)) rfl ?_
        obtain ⟨⟨g0, g1⟩, h⟩ := h
        refine Fr.iast (c := 73) (N := 16) (by decide +kernel : zi 210 83 = some (.iastore, 1)) (by decide +kernel) (by decide) g0 g1 ?_
        refine Fr.ild (by decide +kernel : zi 210 84 = some (.iload 4, 2)) rfl ?_
        exact Fr.retI (by decide +kernel : zi 210 86 = some (.ireturn, 1)) (by decide +kernel) h
      · have h := h.2 g9
        refine Fr.bipush (by decide +kernel : zi 210 19 = some (.bipush (-5), 2)) (by decide) ?_
        exact Fr.retI (by decide +kernel : zi 210 21 = some (.ireturn, 1)) (by decide +kernel) h
theorem e210 {xs : Nat → Int} {L : Nat} {d : Nat} {v1 : Int} {v2 : Int} {s : Pl} {Q : Option AV → Pl → Prop} (hd : 1 ≤ d) (k : Fr xs L T0 106 (d - 1) 210 0 [some (rf 73), some (it v1), some (it v2), none, none] [] s Q) : Ev xs L T0 106 d 210 [rf 73, it v1, it v2] s Q := Ev.of (by decide) _ rfl hd k
-- 211 X8_leave
theorem f211_0 {xs : Nat → Int} {L : Nat} {d : Nat} {v1 : Int} {s : Pl} {P : Int → Pl → Prop} (h : Ev xs L T0 106 d 132 [it v1, it 0, it 1] s (qi fun r2 s1 => ((¬ r2 = 0 → Ev xs L T0 106 d 195 [rf 73, it 0] s1 (qv fun s3 => Fr xs L T0 106 d 211 24 [some (rf 73), some (it v1), some (it (-1)), some (it 0), some (it 0), none] [] s3 (qi P))) ∧ (¬ (¬ r2 = 0) → P (-2) s1)))) : Fr xs L T0 106 d 211 0 [some (rf 73), some (it v1), none, none, none, none] [] s (qi P) := by
  refine Fr.ildn (by decide +kernel : zi 211 0 = some (.iload_n 1, 1)) rfl ?_
  refine Fr.iconst (by decide +kernel : zi 211 1 = some (.iconst 0, 1)) (by decide) ?_
  refine Fr.iconst (by decide +kernel : zi 211 2 = some (.iconst 1, 1)) (by decide) ?_
  refine Fr.callI (y2 := 132) (na := 3) (as := [it v1, it 0, it 1]) (rest := []) (by decide +kernel : zi 211 3 = some (.invokestatic 118, 3)) rfl (by decide +kernel) (by decide +kernel) rfl rfl (zok_S rfl (by decide) (by decide +kernel) rfl (Nat.le_of_ble_eq_true rfl)) h (fun r2 s1 h => ?_)
  refine Fr.if0 (q := 12) (by decide +kernel : zi 211 6 = some (.ifCond .ne 6, 3)) (by decide +kernel) (fun g9 => ?_) (fun g9 => ?_)
  · have h := h.1 g9
    refine Fr.aldn (c := 73) (by decide +kernel : zi 211 12 = some (.aload_n 0, 1)) rfl ⟨by omega, by omega⟩ ?_
    refine Fr.iconst (by decide +kernel : zi 211 13 = some (.iconst 0, 1)) (by decide) ?_
    refine Fr.callV (y2 := 195) (na := 2) (as := [rf 73, it 0]) (rest := []) (by decide +kernel : zi 211 14 = some (.invokevirtual 311, 3)) rfl (by decide +kernel) (by decide +kernel) rfl rfl (zok_V rfl (by decide) (by decide +kernel) (by decide +kernel) (zrecv_c (c := 72) (by decide) (by decide +kernel)) rfl (Nat.le_of_ble_eq_true rfl)) h (fun s3 h => ?_)
    refine Fr.iconst (by decide +kernel : zi 211 17 = some (.iconst (-1), 1)) (by decide) ?_
    refine Fr.istn (lv2 := [some (rf 73), some (it v1), some (it (-1)), none, none, none]) (by decide +kernel : zi 211 18 = some (.istore_n 2, 1)) (Nat.le_of_ble_eq_true rfl) rfl ?_
    refine Fr.iconst (by decide +kernel : zi 211 19 = some (.iconst 0, 1)) (by decide) ?_
    refine Fr.istn (lv2 := [some (rf 73), some (it v1), some (it (-1)), some (it 0), none, none]) (by decide +kernel : zi 211 20 = some (.istore_n 3, 1)) (Nat.le_of_ble_eq_true rfl) rfl ?_
    refine Fr.iconst (by decide +kernel : zi 211 21 = some (.iconst 0, 1)) (by decide) ?_
    refine Fr.ist (lv2 := [some (rf 73), some (it v1), some (it (-1)), some (it 0), some (it 0), none]) (by decide +kernel : zi 211 22 = some (.istore 4, 2)) (Nat.le_of_ble_eq_true rfl) rfl ?_
    exact h
  · have h := h.2 g9
    refine Fr.bipush (by decide +kernel : zi 211 9 = some (.bipush (-2), 2)) (by decide) ?_
    exact Fr.retI (by decide +kernel : zi 211 11 = some (.ireturn, 1)) (by decide +kernel) h
theorem e211 {xs : Nat → Int} {L : Nat} {d : Nat} {v1 : Int} {s : Pl} {Q : Option AV → Pl → Prop} (hd : 1 ≤ d) (k : Fr xs L T0 106 (d - 1) 211 0 [some (rf 73), some (it v1), none, none, none, none] [] s Q) : Ev xs L T0 106 d 211 [rf 73, it v1] s Q := Ev.of (by decide) _ rfl hd k
theorem f211_24 {xs : Nat → Int} {L : Nat} {d : Nat} {v1 : Int} {v2 : Int} {v3 : Int} {v4 : Int} {w5 : Option AV} {s : Pl} {P : Int → Pl → Prop} (h : ((s 72 3 ≤ v4 → ((v2 < 0 → Fr xs L T0 106 d 211 81 [some (rf 73), some (it v1), some (it v2), some (it v3), some (it v4), w5] [] s (qi P)) ∧ (¬ (v2 < 0) → ((¬ v1 = 0 → P v3 s) ∧ (¬ (¬ v1 = 0) → Fr xs L T0 106 d 211 81 [some (rf 73), some (it v1), some (it v2), some (it v3), some (it v4), w5] [] s (qi P)))))) ∧ (¬ (s 72 3 ≤ v4) → Ev xs L T0 106 d 196 [rf 73, it (zshl 1 v4)] s (qi fun r2 s1 => ((r2 < 0 → Fr xs L T0 106 d 211 67 [some (rf 73), some (it v1), some (it v2), some (it v3), some (it v4), some (it r2)] [] s1 (qi P)) ∧ (¬ (r2 < 0) → ((v2 < 0 → Fr xs L T0 106 d 211 61 [some (rf 73), some (it v1), some (it v2), some (it v3), some (it v4), some (it r2)] [] s1 (qi P)) ∧ (¬ (v2 < 0) → ((r2 < v3 → Fr xs L T0 106 d 211 61 [some (rf 73), some (it v1), some (it v2), some (it v3), some (it v4), some (it r2)] [] s1 (qi P)) ∧ (¬ (r2 < v3) → Fr xs L T0 106 d 211 67 [some (rf 73), some (it v1), some (it v2), some (it v3), some (it v4), some (it r2)] [] s1 (qi P))))))))))) : Fr xs L T0 106 d 211 24 [some (rf 73), some (it v1), some (it v2), some (it v3), some (it v4), w5] [] s (qi P) := by
  refine Fr.ild (by decide +kernel : zi 211 24 = some (.iload 4, 2)) rfl ?_
  refine Fr.aldn (c := 73) (by decide +kernel : zi 211 26 = some (.aload_n 0, 1)) rfl ⟨by omega, by omega⟩ ?_
  refine Fr.gI (c := 72) (ci := 8) (k := 3) (t := 0) 3 (by decide +kernel : zi 211 27 = some (.getfield 122, 3)) (by decide +kernel) (by decide +kernel) (by decide +kernel) (by decide) rfl ?_
  refine Fr.if2 (q := 73) (by decide +kernel : zi 211 30 = some (.if_icmp .ge 43, 3)) (by decide +kernel) (fun g9 => ?_) (fun g9 => ?_)
  · have h := h.1 g9
    refine Fr.ildn (by decide +kernel : zi 211 73 = some (.iload_n 2, 1)) rfl ?_
    refine Fr.if0 (q := 81) (by decide +kernel : zi 211 74 = some (.ifCond .lt 7, 3)) (by decide +kernel) (fun g9 => ?_) (fun g9 => ?_)
    · have h := h.1 g9
      exact h
    · have h := h.2 g9
      refine Fr.ildn (by decide +kernel : zi 211 77 = some (.iload_n 1, 1)) rfl ?_
      refine Fr.if0 (q := 85) (by decide +kernel : zi 211 78 = some (.ifCond .ne 7, 3)) (by decide +kernel) (fun g9 => ?_) (fun g9 => ?_)
      · have h := h.1 g9
        refine Fr.ildn (by decide +kernel : zi 211 85 = some (.iload_n 3, 1)) rfl ?_
        exact Fr.retI (by decide +kernel : zi 211 86 = some (.ireturn, 1)) (by decide +kernel) h
      · have h := h.2 g9
        exact h
  · have h := h.2 g9
    refine Fr.aldn (c := 73) (by decide +kernel : zi 211 33 = some (.aload_n 0, 1)) rfl ⟨by omega, by omega⟩ ?_
    refine Fr.iconst (by decide +kernel : zi 211 34 = some (.iconst 1, 1)) (by decide) ?_
    refine Fr.ild (by decide +kernel : zi 211 35 = some (.iload 4, 2)) rfl ?_
    refine Fr.ishl (by decide +kernel : zi 211 37 = some (.ishl, 1)) ?_
    refine Fr.callI (y2 := 196) (na := 2) (as := [rf 73, it (zshl 1 v4)]) (rest := []) (by decide +kernel : zi 211 38 = some (.invokevirtual 314, 3)) rfl (by decide +kernel) (by decide +kernel) rfl rfl (zok_V rfl (by decide) (by decide +kernel) (by decide +kernel) (zrecv_c (c := 72) (by decide) (by decide +kernel)) rfl (Nat.le_of_ble_eq_true rfl)) h (fun r2 s1 h => ?_)
    refine Fr.ist (lv2 := [some (rf 73), some (it v1), some (it v2), some (it v3), some (it v4), some (it r2)]) (by decide +kernel : zi 211 41 = some (.istore 5, 2)) (Nat.le_of_ble_eq_true rfl) rfl ?_
    refine Fr.ild (by decide +kernel : zi 211 43 = some (.iload 5, 2)) rfl ?_
    refine Fr.if0 (q := 67) (by decide +kernel : zi 211 45 = some (.ifCond .lt 22, 3)) (by decide +kernel) (fun g9 => ?_) (fun g9 => ?_)
    · have h := h.1 g9
      exact h
    · have h := h.2 g9
      refine Fr.ildn (by decide +kernel : zi 211 48 = some (.iload_n 2, 1)) rfl ?_
      refine Fr.if0 (q := 61) (by decide +kernel : zi 211 49 = some (.ifCond .lt 12, 3)) (by decide +kernel) (fun g9 => ?_) (fun g9 => ?_)
      · have h := h.1 g9
        exact h
      · have h := h.2 g9
        refine Fr.ild (by decide +kernel : zi 211 52 = some (.iload 5, 2)) rfl ?_
        refine Fr.ildn (by decide +kernel : zi 211 54 = some (.iload_n 3, 1)) rfl ?_
        refine Fr.if2 (q := 61) (by decide +kernel : zi 211 55 = some (.if_icmp .lt 6, 3)) (by decide +kernel) (fun g9 => ?_) (fun g9 => ?_)
        · have h := h.1 g9
          exact h
        · have h := h.2 g9
          refine Fr.goto (q := 67) (by decide +kernel : zi 211 58 = some (.goto 9, 3)) (by decide +kernel) ?_
          exact h
theorem f211_61 {xs : Nat → Int} {L : Nat} {d : Nat} {v1 : Int} {v2 : Int} {v3 : Int} {v4 : Int} {v5 : Int} {s : Pl} {P : Int → Pl → Prop} (h : Fr xs L T0 106 d 211 67 [some (rf 73), some (it v1), some (it v4), some (it v5), some (it v4), some (it v5)] [] s (qi P)) : Fr xs L T0 106 d 211 61 [some (rf 73), some (it v1), some (it v2), some (it v3), some (it v4), some (it v5)] [] s (qi P) := by
  refine Fr.ild (by decide +kernel : zi 211 61 = some (.iload 4, 2)) rfl ?_
  refine Fr.istn (lv2 := [some (rf 73), some (it v1), some (it v4), some (it v3), some (it v4), some (it v5)]) (by decide +kernel : zi 211 63 = some (.istore_n 2, 1)) (Nat.le_of_ble_eq_true rfl) rfl ?_
  refine Fr.ild (by decide +kernel : zi 211 64 = some (.iload 5, 2)) rfl ?_
  refine Fr.istn (lv2 := [some (rf 73), some (it v1), some (it v4), some (it v5), some (it v4), some (it v5)]) (by decide +kernel : zi 211 66 = some (.istore_n 3, 1)) (Nat.le_of_ble_eq_true rfl) rfl ?_
  exact h
theorem f211_67 {xs : Nat → Int} {L : Nat} {d : Nat} {v1 : Int} {v2 : Int} {v3 : Int} {v4 : Int} {v5 : Int} {s : Pl} {P : Int → Pl → Prop} (h : Fr xs L T0 106 d 211 24 [some (rf 73), some (it v1), some (it v2), some (it v3), some (it (zw (v4 + 1))), some (it v5)] [] s (qi P)) : Fr xs L T0 106 d 211 67 [some (rf 73), some (it v1), some (it v2), some (it v3), some (it v4), some (it v5)] [] s (qi P) := by
  refine Fr.iinc (lv2 := [some (rf 73), some (it v1), some (it v2), some (it v3), some (it (zw (v4 + 1))), some (it v5)]) (by decide +kernel : zi 211 67 = some (.iinc 4 1, 3)) (Nat.le_of_ble_eq_true rfl) rfl rfl ?_
  refine Fr.goto (q := 24) (by decide +kernel : zi 211 70 = some (.goto (-46), 3)) (by decide +kernel) ?_
  exact h
theorem f211_81 {xs : Nat → Int} {L : Nat} {d : Nat} {v1 : Int} {v2 : Int} {v3 : Int} {v4 : Int} {w5 : Option AV} {s : Pl} {P : Int → Pl → Prop} (h : P v2 s) : Fr xs L T0 106 d 211 81 [some (rf 73), some (it v1), some (it v2), some (it v3), some (it v4), w5] [] s (qi P) := by
  refine Fr.ildn (by decide +kernel : zi 211 81 = some (.iload_n 2, 1)) rfl ?_
  refine Fr.goto (q := 86) (by decide +kernel : zi 211 82 = some (.goto 4, 3)) (by decide +kernel) ?_
  exact Fr.retI (by decide +kernel : zi 211 86 = some (.ireturn, 1)) (by decide +kernel) h
-- 212 X8_first
theorem f212_0 {xs : Nat → Int} {L : Nat} {d : Nat}  {s : Pl} {P : Int → Pl → Prop} (h : Ev xs L T0 106 d 197 [rf 73, it 0] s (qi fun r2 s1 => ((0 ≤ r2 → Fr xs L T0 106 d 212 14 [some (rf 73), some (it r2), some (it 0), none, none] [] s1 (qi P)) ∧ (¬ (0 ≤ r2) → P (-1) s1)))) : Fr xs L T0 106 d 212 0 [some (rf 73), none, none, none, none] [] s (qi P) := by
  refine Fr.aldn (c := 73) (by decide +kernel : zi 212 0 = some (.aload_n 0, 1)) rfl ⟨by omega, by omega⟩ ?_
  refine Fr.iconst (by decide +kernel : zi 212 1 = some (.iconst 0, 1)) (by decide) ?_
  refine Fr.callI (y2 := 197) (na := 2) (as := [rf 73, it 0]) (rest := []) (by decide +kernel : zi 212 2 = some (.invokevirtual 317, 3)) rfl (by decide +kernel) (by decide +kernel) rfl rfl (zok_V rfl (by decide) (by decide +kernel) (by decide +kernel) (zrecv_c (c := 72) (by decide) (by decide +kernel)) rfl (Nat.le_of_ble_eq_true rfl)) h (fun r2 s1 h => ?_)
  refine Fr.istn (lv2 := [some (rf 73), some (it r2), none, none, none]) (by decide +kernel : zi 212 5 = some (.istore_n 1, 1)) (Nat.le_of_ble_eq_true rfl) rfl ?_
  refine Fr.ildn (by decide +kernel : zi 212 6 = some (.iload_n 1, 1)) rfl ?_
  refine Fr.if0 (q := 12) (by decide +kernel : zi 212 7 = some (.ifCond .ge 5, 3)) (by decide +kernel) (fun g9 => ?_) (fun g9 => ?_)
  · have h := h.1 g9
    refine Fr.iconst (by decide +kernel : zi 212 12 = some (.iconst 0, 1)) (by decide) ?_
    refine Fr.istn (lv2 := [some (rf 73), some (it r2), some (it 0), none, none]) (by decide +kernel : zi 212 13 = some (.istore_n 2, 1)) (Nat.le_of_ble_eq_true rfl) rfl ?_
    exact h
  · have h := h.2 g9
    refine Fr.iconst (by decide +kernel : zi 212 10 = some (.iconst (-1), 1)) (by decide) ?_
    exact Fr.retI (by decide +kernel : zi 212 11 = some (.ireturn, 1)) (by decide +kernel) h
theorem e212 {xs : Nat → Int} {L : Nat} {d : Nat}  {s : Pl} {Q : Option AV → Pl → Prop} (hd : 1 ≤ d) (k : Fr xs L T0 106 (d - 1) 212 0 [some (rf 73), none, none, none, none] [] s Q) : Ev xs L T0 106 d 212 [rf 73] s Q := Ev.of (by decide) _ rfl hd k
theorem f212_14 {xs : Nat → Int} {L : Nat} {d : Nat} {v1 : Int} {v2 : Int} {w3 : Option AV} {w4 : Option AV} {s : Pl} {P : Int → Pl → Prop} (h : ((s 72 3 ≤ v2 → P (-1) s) ∧ (¬ (s 72 3 ≤ v2) → Fr xs L T0 106 d 212 24 [some (rf 73), some (it v1), some (it v2), some (it 0), w4] [] s (qi P)))) : Fr xs L T0 106 d 212 14 [some (rf 73), some (it v1), some (it v2), w3, w4] [] s (qi P) := by
  refine Fr.ildn (by decide +kernel : zi 212 14 = some (.iload_n 2, 1)) rfl ?_
  refine Fr.aldn (c := 73) (by decide +kernel : zi 212 15 = some (.aload_n 0, 1)) rfl ⟨by omega, by omega⟩ ?_
  refine Fr.gI (c := 72) (ci := 8) (k := 3) (t := 0) 3 (by decide +kernel : zi 212 16 = some (.getfield 122, 3)) (by decide +kernel) (by decide +kernel) (by decide +kernel) (by decide) rfl ?_
  refine Fr.if2 (q := 88) (by decide +kernel : zi 212 19 = some (.if_icmp .ge 69, 3)) (by decide +kernel) (fun g9 => ?_) (fun g9 => ?_)
  · have h := h.1 g9
    refine Fr.iconst (by decide +kernel : zi 212 88 = some (.iconst (-1), 1)) (by decide) ?_
    exact Fr.retI (by decide +kernel : zi 212 89 = some (.ireturn, 1)) (by decide +kernel) h
  · have h := h.2 g9
    refine Fr.iconst (by decide +kernel : zi 212 22 = some (.iconst 0, 1)) (by decide) ?_
    refine Fr.istn (lv2 := [some (rf 73), some (it v1), some (it v2), some (it 0), w4]) (by decide +kernel : zi 212 23 = some (.istore_n 3, 1)) (Nat.le_of_ble_eq_true rfl) rfl ?_
    exact h
theorem f212_24 {xs : Nat → Int} {L : Nat} {d : Nat} {v1 : Int} {v2 : Int} {v3 : Int} {w4 : Option AV} {s : Pl} {P : Int → Pl → Prop} (h : ((s 72 3 ≤ v3 → Fr xs L T0 106 d 212 14 [some (rf 73), some (it v1), some (it (zw (v2 + 1))), some (it v3), w4] [] s (qi P)) ∧ (¬ (s 72 3 ≤ v3) → Ev xs L T0 106 d 176 [rf 73, it v2, it v3] s (qi fun r2 s1 => ((¬ r2 = 0 → Ev xs L T0 106 d 177 [rf 73, it v2, it v3] s1 (qv fun s3 => Ev xs L T0 106 d 197 [rf 73, it 0] s3 (qi fun r5 s4 => Ev xs L T0 106 d 177 [rf 73, it v3, it v2] s4 (qv fun s6 => ((¬ r5 = v1 → Fr xs L T0 106 d 212 76 [some (rf 73), some (it v1), some (it v2), some (it v3), some (it r5)] [] s6 (qi P)) ∧ (¬ (¬ r5 = v1) → P (zw ((zw (10 * v2)) + v3)) s6)))))) ∧ (¬ (¬ r2 = 0) → Fr xs L T0 106 d 212 76 [some (rf 73), some (it v1), some (it v2), some (it v3), w4] [] s1 (qi P))))))) : Fr xs L T0 106 d 212 24 [some (rf 73), some (it v1), some (it v2), some (it v3), w4] [] s (qi P) := by
  refine Fr.ildn (by decide +kernel : zi 212 24 = some (.iload_n 3, 1)) rfl ?_
  refine Fr.aldn (c := 73) (by decide +kernel : zi 212 25 = some (.aload_n 0, 1)) rfl ⟨by omega, by omega⟩ ?_
  refine Fr.gI (c := 72) (ci := 8) (k := 3) (t := 0) 3 (by decide +kernel : zi 212 26 = some (.getfield 122, 3)) (by decide +kernel) (by decide +kernel) (by decide +kernel) (by decide) rfl ?_
  refine Fr.if2 (q := 82) (by decide +kernel : zi 212 29 = some (.if_icmp .ge 53, 3)) (by decide +kernel) (fun g9 => ?_) (fun g9 => ?_)
  · have h := h.1 g9
    refine Fr.iinc (lv2 := [some (rf 73), some (it v1), some (it (zw (v2 + 1))), some (it v3), w4]) (by decide +kernel : zi 212 82 = some (.iinc 2 1, 3)) (Nat.le_of_ble_eq_true rfl) rfl rfl ?_
    refine Fr.goto (q := 14) (by decide +kernel : zi 212 85 = some (.goto (-71), 3)) (by decide +kernel) ?_
    exact h
  · have h := h.2 g9
    refine Fr.aldn (c := 73) (by decide +kernel : zi 212 32 = some (.aload_n 0, 1)) rfl ⟨by omega, by omega⟩ ?_
    refine Fr.ildn (by decide +kernel : zi 212 33 = some (.iload_n 2, 1)) rfl ?_
    refine Fr.ildn (by decide +kernel : zi 212 34 = some (.iload_n 3, 1)) rfl ?_
    refine Fr.callI (y2 := 176) (na := 3) (as := [rf 73, it v2, it v3]) (rest := []) (by decide +kernel : zi 212 35 = some (.invokevirtual 266, 3)) rfl (by decide +kernel) (by decide +kernel) rfl rfl (zok_V rfl (by decide) (by decide +kernel) (by decide +kernel) (zrecv_c (c := 72) (by decide) (by decide +kernel)) rfl (Nat.le_of_ble_eq_true rfl)) h (fun r2 s1 h => ?_)
    refine Fr.if0 (q := 44) (by decide +kernel : zi 212 38 = some (.ifCond .ne 6, 3)) (by decide +kernel) (fun g9 => ?_) (fun g9 => ?_)
    · have h := h.1 g9
      refine Fr.aldn (c := 73) (by decide +kernel : zi 212 44 = some (.aload_n 0, 1)) rfl ⟨by omega, by omega⟩ ?_
      refine Fr.ildn (by decide +kernel : zi 212 45 = some (.iload_n 2, 1)) rfl ?_
      refine Fr.ildn (by decide +kernel : zi 212 46 = some (.iload_n 3, 1)) rfl ?_
      refine Fr.callV (y2 := 177) (na := 3) (as := [rf 73, it v2, it v3]) (rest := []) (by decide +kernel : zi 212 47 = some (.invokevirtual 260, 3)) rfl (by decide +kernel) (by decide +kernel) rfl rfl (zok_V rfl (by decide) (by decide +kernel) (by decide +kernel) (zrecv_c (c := 72) (by decide) (by decide +kernel)) rfl (Nat.le_of_ble_eq_true rfl)) h (fun s3 h => ?_)
      refine Fr.aldn (c := 73) (by decide +kernel : zi 212 50 = some (.aload_n 0, 1)) rfl ⟨by omega, by omega⟩ ?_
      refine Fr.iconst (by decide +kernel : zi 212 51 = some (.iconst 0, 1)) (by decide) ?_
      refine Fr.callI (y2 := 197) (na := 2) (as := [rf 73, it 0]) (rest := []) (by decide +kernel : zi 212 52 = some (.invokevirtual 317, 3)) rfl (by decide +kernel) (by decide +kernel) rfl rfl (zok_V rfl (by decide) (by decide +kernel) (by decide +kernel) (zrecv_c (c := 72) (by decide) (by decide +kernel)) rfl (Nat.le_of_ble_eq_true rfl)) h (fun r5 s4 h => ?_)
      refine Fr.ist (lv2 := [some (rf 73), some (it v1), some (it v2), some (it v3), some (it r5)]) (by decide +kernel : zi 212 55 = some (.istore 4, 2)) (Nat.le_of_ble_eq_true rfl) rfl ?_
      refine Fr.aldn (c := 73) (by decide +kernel : zi 212 57 = some (.aload_n 0, 1)) rfl ⟨by omega, by omega⟩ ?_
      refine Fr.ildn (by decide +kernel : zi 212 58 = some (.iload_n 3, 1)) rfl ?_
      refine Fr.ildn (by decide +kernel : zi 212 59 = some (.iload_n 2, 1)) rfl ?_
      refine Fr.callV (y2 := 177) (na := 3) (as := [rf 73, it v3, it v2]) (rest := []) (by decide +kernel : zi 212 60 = some (.invokevirtual 260, 3)) rfl (by decide +kernel) (by decide +kernel) rfl rfl (zok_V rfl (by decide) (by decide +kernel) (by decide +kernel) (zrecv_c (c := 72) (by decide) (by decide +kernel)) rfl (Nat.le_of_ble_eq_true rfl)) h (fun s6 h => ?_)
      refine Fr.ild (by decide +kernel : zi 212 63 = some (.iload 4, 2)) rfl ?_
      refine Fr.ildn (by decide +kernel : zi 212 65 = some (.iload_n 1, 1)) rfl ?_
      refine Fr.if2 (q := 76) (by decide +kernel : zi 212 66 = some (.if_icmp .ne 10, 3)) (by decide +kernel) (fun g9 => ?_) (fun g9 => ?_)
      · have h := h.1 g9
        exact h
      · have h := h.2 g9
        refine Fr.bipush (by decide +kernel : zi 212 69 = some (.bipush 10, 2)) (by decide) ?_
        refine Fr.ildn (by decide +kernel : zi 212 71 = some (.iload_n 2, 1)) rfl ?_
        refine Fr.imul (by decide +kernel : zi 212 72 = some (.imul, 1)) ?_
        refine Fr.ildn (by decide +kernel : zi 212 73 = some (.iload_n 3, 1)) rfl ?_
        refine Fr.iadd (by decide +kernel : zi 212 74 = some (.iadd, 1)) ?_
        exact Fr.retI (by decide +kernel : zi 212 75 = some (.ireturn, 1)) (by decide +kernel) h
    · have h := h.2 g9
      refine Fr.goto (q := 76) (by decide +kernel : zi 212 41 = some (.goto 35, 3)) (by decide +kernel) ?_
      exact h
theorem f212_76 {xs : Nat → Int} {L : Nat} {d : Nat} {v1 : Int} {v2 : Int} {v3 : Int} {w4 : Option AV} {s : Pl} {P : Int → Pl → Prop} (h : Fr xs L T0 106 d 212 24 [some (rf 73), some (it v1), some (it v2), some (it (zw (v3 + 1))), w4] [] s (qi P)) : Fr xs L T0 106 d 212 76 [some (rf 73), some (it v1), some (it v2), some (it v3), w4] [] s (qi P) := by
  refine Fr.iinc (lv2 := [some (rf 73), some (it v1), some (it v2), some (it (zw (v3 + 1))), w4]) (by decide +kernel : zi 212 76 = some (.iinc 3 1, 3)) (Nat.le_of_ble_eq_true rfl) rfl rfl ?_
  refine Fr.goto (q := 24) (by decide +kernel : zi 212 79 = some (.goto (-55), 3)) (by decide +kernel) ?_
  exact h
-- 213 X8_swapsNow
theorem f213_0 {xs : Nat → Int} {L : Nat} {d : Nat}  {s : Pl} {P : Int → Pl → Prop} (h : Fr xs L T0 106 d 213 4 [some (rf 73), some (it 0), some (it 0), none] [] s (qi P)) : Fr xs L T0 106 d 213 0 [some (rf 73), none, none, none] [] s (qi P) := by
  refine Fr.iconst (by decide +kernel : zi 213 0 = some (.iconst 0, 1)) (by decide) ?_
  refine Fr.istn (lv2 := [some (rf 73), some (it 0), none, none]) (by decide +kernel : zi 213 1 = some (.istore_n 1, 1)) (Nat.le_of_ble_eq_true rfl) rfl ?_
  refine Fr.iconst (by decide +kernel : zi 213 2 = some (.iconst 0, 1)) (by decide) ?_
  refine Fr.istn (lv2 := [some (rf 73), some (it 0), some (it 0), none]) (by decide +kernel : zi 213 3 = some (.istore_n 2, 1)) (Nat.le_of_ble_eq_true rfl) rfl ?_
  exact h
theorem e213 {xs : Nat → Int} {L : Nat} {d : Nat}  {s : Pl} {Q : Option AV → Pl → Prop} (hd : 1 ≤ d) (k : Fr xs L T0 106 (d - 1) 213 0 [some (rf 73), none, none, none] [] s Q) : Ev xs L T0 106 d 213 [rf 73] s Q := Ev.of (by decide) _ rfl hd k
theorem f213_4 {xs : Nat → Int} {L : Nat} {d : Nat} {v1 : Int} {v2 : Int} {w3 : Option AV} {s : Pl} {P : Int → Pl → Prop} (h : ((s 72 3 ≤ v2 → P v1 s) ∧ (¬ (s 72 3 ≤ v2) → Fr xs L T0 106 d 213 14 [some (rf 73), some (it v1), some (it v2), some (it 0)] [] s (qi P)))) : Fr xs L T0 106 d 213 4 [some (rf 73), some (it v1), some (it v2), w3] [] s (qi P) := by
  refine Fr.ildn (by decide +kernel : zi 213 4 = some (.iload_n 2, 1)) rfl ?_
  refine Fr.aldn (c := 73) (by decide +kernel : zi 213 5 = some (.aload_n 0, 1)) rfl ⟨by omega, by omega⟩ ?_
  refine Fr.gI (c := 72) (ci := 8) (k := 3) (t := 0) 3 (by decide +kernel : zi 213 6 = some (.getfield 122, 3)) (by decide +kernel) (by decide +kernel) (by decide +kernel) (by decide) rfl ?_
  refine Fr.if2 (q := 46) (by decide +kernel : zi 213 9 = some (.if_icmp .ge 37, 3)) (by decide +kernel) (fun g9 => ?_) (fun g9 => ?_)
  · have h := h.1 g9
    refine Fr.ildn (by decide +kernel : zi 213 46 = some (.iload_n 1, 1)) rfl ?_
    exact Fr.retI (by decide +kernel : zi 213 47 = some (.ireturn, 1)) (by decide +kernel) h
  · have h := h.2 g9
    refine Fr.iconst (by decide +kernel : zi 213 12 = some (.iconst 0, 1)) (by decide) ?_
    refine Fr.istn (lv2 := [some (rf 73), some (it v1), some (it v2), some (it 0)]) (by decide +kernel : zi 213 13 = some (.istore_n 3, 1)) (Nat.le_of_ble_eq_true rfl) rfl ?_
    exact h
theorem f213_14 {xs : Nat → Int} {L : Nat} {d : Nat} {v1 : Int} {v2 : Int} {v3 : Int} {s : Pl} {P : Int → Pl → Prop} (h : ((s 72 3 ≤ v3 → Fr xs L T0 106 d 213 4 [some (rf 73), some (it v1), some (it (zw (v2 + 1))), some (it v3)] [] s (qi P)) ∧ (¬ (s 72 3 ≤ v3) → Ev xs L T0 106 d 176 [rf 73, it v2, it v3] s (qi fun r2 s1 => ((r2 = 0 → Fr xs L T0 106 d 213 34 [some (rf 73), some (it v1), some (it v2), some (it v3)] [] s1 (qi P)) ∧ (¬ (r2 = 0) → Fr xs L T0 106 d 213 34 [some (rf 73), some (it (zw (v1 + 1))), some (it v2), some (it v3)] [] s1 (qi P))))))) : Fr xs L T0 106 d 213 14 [some (rf 73), some (it v1), some (it v2), some (it v3)] [] s (qi P) := by
  refine Fr.ildn (by decide +kernel : zi 213 14 = some (.iload_n 3, 1)) rfl ?_
  refine Fr.aldn (c := 73) (by decide +kernel : zi 213 15 = some (.aload_n 0, 1)) rfl ⟨by omega, by omega⟩ ?_
  refine Fr.gI (c := 72) (ci := 8) (k := 3) (t := 0) 3 (by decide +kernel : zi 213 16 = some (.getfield 122, 3)) (by decide +kernel) (by decide +kernel) (by decide +kernel) (by decide) rfl ?_
  refine Fr.if2 (q := 40) (by decide +kernel : zi 213 19 = some (.if_icmp .ge 21, 3)) (by decide +kernel) (fun g9 => ?_) (fun g9 => ?_)
  · have h := h.1 g9
    refine Fr.iinc (lv2 := [some (rf 73), some (it v1), some (it (zw (v2 + 1))), some (it v3)]) (by decide +kernel : zi 213 40 = some (.iinc 2 1, 3)) (Nat.le_of_ble_eq_true rfl) rfl rfl ?_
    refine Fr.goto (q := 4) (by decide +kernel : zi 213 43 = some (.goto (-39), 3)) (by decide +kernel) ?_
    exact h
  · have h := h.2 g9
    refine Fr.aldn (c := 73) (by decide +kernel : zi 213 22 = some (.aload_n 0, 1)) rfl ⟨by omega, by omega⟩ ?_
    refine Fr.ildn (by decide +kernel : zi 213 23 = some (.iload_n 2, 1)) rfl ?_
    refine Fr.ildn (by decide +kernel : zi 213 24 = some (.iload_n 3, 1)) rfl ?_
    refine Fr.callI (y2 := 176) (na := 3) (as := [rf 73, it v2, it v3]) (rest := []) (by decide +kernel : zi 213 25 = some (.invokevirtual 266, 3)) rfl (by decide +kernel) (by decide +kernel) rfl rfl (zok_V rfl (by decide) (by decide +kernel) (by decide +kernel) (zrecv_c (c := 72) (by decide) (by decide +kernel)) rfl (Nat.le_of_ble_eq_true rfl)) h (fun r2 s1 h => ?_)
    refine Fr.if0 (q := 34) (by decide +kernel : zi 213 28 = some (.ifCond .eq 6, 3)) (by decide +kernel) (fun g9 => ?_) (fun g9 => ?_)
    · have h := h.1 g9
      exact h
    · have h := h.2 g9
      refine Fr.iinc (lv2 := [some (rf 73), some (it (zw (v1 + 1))), some (it v2), some (it v3)]) (by decide +kernel : zi 213 31 = some (.iinc 1 1, 3)) (Nat.le_of_ble_eq_true rfl) rfl rfl ?_
      exact h
theorem f213_34 {xs : Nat → Int} {L : Nat} {d : Nat} {v1 : Int} {v2 : Int} {v3 : Int} {s : Pl} {P : Int → Pl → Prop} (h : Fr xs L T0 106 d 213 14 [some (rf 73), some (it v1), some (it v2), some (it (zw (v3 + 1)))] [] s (qi P)) : Fr xs L T0 106 d 213 34 [some (rf 73), some (it v1), some (it v2), some (it v3)] [] s (qi P) := by
  refine Fr.iinc (lv2 := [some (rf 73), some (it v1), some (it v2), some (it (zw (v3 + 1)))]) (by decide +kernel : zi 213 34 = some (.iinc 3 1, 3)) (Nat.le_of_ble_eq_true rfl) rfl rfl ?_
  refine Fr.goto (q := 14) (by decide +kernel : zi 213 37 = some (.goto (-23), 3)) (by decide +kernel) ?_
  exact h
-- 214 X8_doLot
theorem f214_0 {xs : Nat → Int} {L : Nat} {d : Nat} {v1 : Int} {s : Pl} {P : Pl → Prop} (h : Fr xs L T0 106 d 214 4 [some (rf 73), some (it v1), some (it v1), some (it 0), none] [] s (qv P)) : Fr xs L T0 106 d 214 0 [some (rf 73), some (it v1), none, none, none] [] s (qv P) := by
  refine Fr.ildn (by decide +kernel : zi 214 0 = some (.iload_n 1, 1)) rfl ?_
  refine Fr.istn (lv2 := [some (rf 73), some (it v1), some (it v1), none, none]) (by decide +kernel : zi 214 1 = some (.istore_n 2, 1)) (Nat.le_of_ble_eq_true rfl) rfl ?_
  refine Fr.iconst (by decide +kernel : zi 214 2 = some (.iconst 0, 1)) (by decide) ?_
  refine Fr.istn (lv2 := [some (rf 73), some (it v1), some (it v1), some (it 0), none]) (by decide +kernel : zi 214 3 = some (.istore_n 3, 1)) (Nat.le_of_ble_eq_true rfl) rfl ?_
  exact h
theorem e214 {xs : Nat → Int} {L : Nat} {d : Nat} {v1 : Int} {s : Pl} {Q : Option AV → Pl → Prop} (hd : 1 ≤ d) (k : Fr xs L T0 106 (d - 1) 214 0 [some (rf 73), some (it v1), none, none, none] [] s Q) : Ev xs L T0 106 d 214 [rf 73, it v1] s Q := Ev.of (by decide) _ rfl hd k
theorem f214_4 {xs : Nat → Int} {L : Nat} {d : Nat} {v1 : Int} {v2 : Int} {v3 : Int} {w4 : Option AV} {s : Pl} {P : Pl → Prop} (h : ((s 72 3 ≤ v3 → Fr xs L T0 106 d 214 66 [some (rf 73), some (it v1), some (it v2), some (it 0), w4] [] s (qv P)) ∧ (¬ (s 72 3 ≤ v3) → Fr xs L T0 106 d 214 15 [some (rf 73), some (it v1), some (it v2), some (it v3), some (it 0)] [] s (qv P)))) : Fr xs L T0 106 d 214 4 [some (rf 73), some (it v1), some (it v2), some (it v3), w4] [] s (qv P) := by
  refine Fr.ildn (by decide +kernel : zi 214 4 = some (.iload_n 3, 1)) rfl ?_
  refine Fr.aldn (c := 73) (by decide +kernel : zi 214 5 = some (.aload_n 0, 1)) rfl ⟨by omega, by omega⟩ ?_
  refine Fr.gI (c := 72) (ci := 8) (k := 3) (t := 0) 3 (by decide +kernel : zi 214 6 = some (.getfield 122, 3)) (by decide +kernel) (by decide +kernel) (by decide +kernel) (by decide) rfl ?_
  refine Fr.if2 (q := 64) (by decide +kernel : zi 214 9 = some (.if_icmp .ge 55, 3)) (by decide +kernel) (fun g9 => ?_) (fun g9 => ?_)
  · have h := h.1 g9
    refine Fr.iconst (by decide +kernel : zi 214 64 = some (.iconst 0, 1)) (by decide) ?_
    refine Fr.istn (lv2 := [some (rf 73), some (it v1), some (it v2), some (it 0), w4]) (by decide +kernel : zi 214 65 = some (.istore_n 3, 1)) (Nat.le_of_ble_eq_true rfl) rfl ?_
    exact h
  · have h := h.2 g9
    refine Fr.iconst (by decide +kernel : zi 214 12 = some (.iconst 0, 1)) (by decide) ?_
    refine Fr.ist (lv2 := [some (rf 73), some (it v1), some (it v2), some (it v3), some (it 0)]) (by decide +kernel : zi 214 13 = some (.istore 4, 2)) (Nat.le_of_ble_eq_true rfl) rfl ?_
    exact h
theorem f214_15 {xs : Nat → Int} {L : Nat} {d : Nat} {v1 : Int} {v2 : Int} {v3 : Int} {v4 : Int} {s : Pl} {P : Pl → Prop} (h : ((s 72 3 ≤ v4 → Fr xs L T0 106 d 214 4 [some (rf 73), some (it v1), some (it v2), some (it (zw (v3 + 1))), some (it v4)] [] s (qv P)) ∧ (¬ (s 72 3 ≤ v4) → Ev xs L T0 106 d 176 [rf 73, it v3, it v4] s (qi fun r2 s1 => ((¬ r2 = 0 → ((¬ v2 = 0 → Fr xs L T0 106 d 214 52 [some (rf 73), some (it v1), some (it (zw (v2 + (-1)))), some (it v3), some (it v4)] [] s1 (qv P)) ∧ (¬ (¬ v2 = 0) → Ev xs L T0 106 d 177 [rf 73, it v3, it v4] s1 (qv fun s3 => P s3)))) ∧ (¬ (¬ r2 = 0) → Fr xs L T0 106 d 214 52 [some (rf 73), some (it v1), some (it v2), some (it v3), some (it v4)] [] s1 (qv P))))))) : Fr xs L T0 106 d 214 15 [some (rf 73), some (it v1), some (it v2), some (it v3), some (it v4)] [] s (qv P) := by
  refine Fr.ild (by decide +kernel : zi 214 15 = some (.iload 4, 2)) rfl ?_
  refine Fr.aldn (c := 73) (by decide +kernel : zi 214 17 = some (.aload_n 0, 1)) rfl ⟨by omega, by omega⟩ ?_
  refine Fr.gI (c := 72) (ci := 8) (k := 3) (t := 0) 3 (by decide +kernel : zi 214 18 = some (.getfield 122, 3)) (by decide +kernel) (by decide +kernel) (by decide +kernel) (by decide) rfl ?_
  refine Fr.if2 (q := 58) (by decide +kernel : zi 214 21 = some (.if_icmp .ge 37, 3)) (by decide +kernel) (fun g9 => ?_) (fun g9 => ?_)
  · have h := h.1 g9
    refine Fr.iinc (lv2 := [some (rf 73), some (it v1), some (it v2), some (it (zw (v3 + 1))), some (it v4)]) (by decide +kernel : zi 214 58 = some (.iinc 3 1, 3)) (Nat.le_of_ble_eq_true rfl) rfl rfl ?_
    refine Fr.goto (q := 4) (by decide +kernel : zi 214 61 = some (.goto (-57), 3)) (by decide +kernel) ?_
    exact h
  · have h := h.2 g9
    refine Fr.aldn (c := 73) (by decide +kernel : zi 214 24 = some (.aload_n 0, 1)) rfl ⟨by omega, by omega⟩ ?_
    refine Fr.ildn (by decide +kernel : zi 214 25 = some (.iload_n 3, 1)) rfl ?_
    refine Fr.ild (by decide +kernel : zi 214 26 = some (.iload 4, 2)) rfl ?_
    refine Fr.callI (y2 := 176) (na := 3) (as := [rf 73, it v3, it v4]) (rest := []) (by decide +kernel : zi 214 28 = some (.invokevirtual 266, 3)) rfl (by decide +kernel) (by decide +kernel) rfl rfl (zok_V rfl (by decide) (by decide +kernel) (by decide +kernel) (zrecv_c (c := 72) (by decide) (by decide +kernel)) rfl (Nat.le_of_ble_eq_true rfl)) h (fun r2 s1 h => ?_)
    refine Fr.if0 (q := 37) (by decide +kernel : zi 214 31 = some (.ifCond .ne 6, 3)) (by decide +kernel) (fun g9 => ?_) (fun g9 => ?_)
    · have h := h.1 g9
      refine Fr.ildn (by decide +kernel : zi 214 37 = some (.iload_n 2, 1)) rfl ?_
      refine Fr.if0 (q := 49) (by decide +kernel : zi 214 38 = some (.ifCond .ne 11, 3)) (by decide +kernel) (fun g9 => ?_) (fun g9 => ?_)
      · have h := h.1 g9
        refine Fr.iinc (lv2 := [some (rf 73), some (it v1), some (it (zw (v2 + (-1)))), some (it v3), some (it v4)]) (by decide +kernel : zi 214 49 = some (.iinc 2 (-1), 3)) (Nat.le_of_ble_eq_true rfl) rfl rfl ?_
        exact h
      · have h := h.2 g9
        refine Fr.aldn (c := 73) (by decide +kernel : zi 214 41 = some (.aload_n 0, 1)) rfl ⟨by omega, by omega⟩ ?_
        refine Fr.ildn (by decide +kernel : zi 214 42 = some (.iload_n 3, 1)) rfl ?_
        refine Fr.ild (by decide +kernel : zi 214 43 = some (.iload 4, 2)) rfl ?_
        refine Fr.callV (y2 := 177) (na := 3) (as := [rf 73, it v3, it v4]) (rest := []) (by decide +kernel : zi 214 45 = some (.invokevirtual 260, 3)) rfl (by decide +kernel) (by decide +kernel) rfl rfl (zok_V rfl (by decide) (by decide +kernel) (by decide +kernel) (zrecv_c (c := 72) (by decide) (by decide +kernel)) rfl (Nat.le_of_ble_eq_true rfl)) h (fun s3 h => ?_)
        exact Fr.retV (by decide +kernel : zi 214 48 = some (.return_, 1)) (by decide +kernel) h
    · have h := h.2 g9
      refine Fr.goto (q := 52) (by decide +kernel : zi 214 34 = some (.goto 18, 3)) (by decide +kernel) ?_
      exact h
theorem f214_52 {xs : Nat → Int} {L : Nat} {d : Nat} {v1 : Int} {v2 : Int} {v3 : Int} {v4 : Int} {s : Pl} {P : Pl → Prop} (h : Fr xs L T0 106 d 214 15 [some (rf 73), some (it v1), some (it v2), some (it v3), some (it (zw (v4 + 1)))] [] s (qv P)) : Fr xs L T0 106 d 214 52 [some (rf 73), some (it v1), some (it v2), some (it v3), some (it v4)] [] s (qv P) := by
  refine Fr.iinc (lv2 := [some (rf 73), some (it v1), some (it v2), some (it v3), some (it (zw (v4 + 1)))]) (by decide +kernel : zi 214 52 = some (.iinc 4 1, 3)) (Nat.le_of_ble_eq_true rfl) rfl rfl ?_
  refine Fr.goto (q := 15) (by decide +kernel : zi 214 55 = some (.goto (-40), 3)) (by decide +kernel) ?_
  exact h
theorem f214_66 {xs : Nat → Int} {L : Nat} {d : Nat} {v1 : Int} {v2 : Int} {v3 : Int} {w4 : Option AV} {s : Pl} {P : Pl → Prop} (h : ((4 ≤ v3 → P s) ∧ (¬ (4 ≤ v3) → ((¬ v3 = s 72 2 → ((¬ v2 = 0 → Fr xs L T0 106 d 214 113 [some (rf 73), some (it v1), some (it (zw (v2 + (-1)))), some (it v3), w4] [] s (qv P)) ∧ (¬ (¬ v2 = 0) → Ev xs L T0 106 d 165 [rf 73, it (s 72 2), it v3] s (qi fun r2 s1 => P (zup (zup s1 72 44 (zw ((s 72 44) + r2))) 72 2 v3))))) ∧ (¬ (¬ v3 = s 72 2) → Fr xs L T0 106 d 214 113 [some (rf 73), some (it v1), some (it v2), some (it v3), w4] [] s (qv P)))))) : Fr xs L T0 106 d 214 66 [some (rf 73), some (it v1), some (it v2), some (it v3), w4] [] s (qv P) := by
  refine Fr.ildn (by decide +kernel : zi 214 66 = some (.iload_n 3, 1)) rfl ?_
  refine Fr.iconst (by decide +kernel : zi 214 67 = some (.iconst 4, 1)) (by decide) ?_
  refine Fr.if2 (q := 119) (by decide +kernel : zi 214 68 = some (.if_icmp .ge 51, 3)) (by decide +kernel) (fun g9 => ?_) (fun g9 => ?_)
  · have h := h.1 g9
    exact Fr.retV (by decide +kernel : zi 214 119 = some (.return_, 1)) (by decide +kernel) h
  · have h := h.2 g9
    refine Fr.ildn (by decide +kernel : zi 214 71 = some (.iload_n 3, 1)) rfl ?_
    refine Fr.aldn (c := 73) (by decide +kernel : zi 214 72 = some (.aload_n 0, 1)) rfl ⟨by omega, by omega⟩ ?_
    refine Fr.gI (c := 72) (ci := 8) (k := 2) (t := 0) 2 (by decide +kernel : zi 214 73 = some (.getfield 129, 3)) (by decide +kernel) (by decide +kernel) (by decide +kernel) (by decide) rfl ?_
    refine Fr.if2 (q := 82) (by decide +kernel : zi 214 76 = some (.if_icmp .ne 6, 3)) (by decide +kernel) (fun g9 => ?_) (fun g9 => ?_)
    · have h := h.1 g9
      refine Fr.ildn (by decide +kernel : zi 214 82 = some (.iload_n 2, 1)) rfl ?_
      refine Fr.if0 (q := 110) (by decide +kernel : zi 214 83 = some (.ifCond .ne 27, 3)) (by decide +kernel) (fun g9 => ?_) (fun g9 => ?_)
      · have h := h.1 g9
        refine Fr.iinc (lv2 := [some (rf 73), some (it v1), some (it (zw (v2 + (-1)))), some (it v3), w4]) (by decide +kernel : zi 214 110 = some (.iinc 2 (-1), 3)) (Nat.le_of_ble_eq_true rfl) rfl rfl ?_
        exact h
      · have h := h.2 g9
        refine Fr.aldn (c := 73) (by decide +kernel : zi 214 86 = some (.aload_n 0, 1)) rfl ⟨by omega, by omega⟩ ?_
        refine Fr.dup (by decide +kernel : zi 214 87 = some (.dup, 1)) rfl ?_
        refine Fr.gI (c := 72) (ci := 8) (k := 44) (t := 0) 44 (by decide +kernel : zi 214 88 = some (.getfield 329, 3)) (by decide +kernel) (by decide +kernel) (by decide +kernel) (by decide) rfl ?_
        refine Fr.aldn (c := 73) (by decide +kernel : zi 214 91 = some (.aload_n 0, 1)) rfl ⟨by omega, by omega⟩ ?_
        refine Fr.aldn (c := 73) (by decide +kernel : zi 214 92 = some (.aload_n 0, 1)) rfl ⟨by omega, by omega⟩ ?_
        refine Fr.gI (c := 72) (ci := 8) (k := 2) (t := 0) 2 (by decide +kernel : zi 214 93 = some (.getfield 129, 3)) (by decide +kernel) (by decide +kernel) (by decide +kernel) (by decide) rfl ?_
        refine Fr.ildn (by decide +kernel : zi 214 96 = some (.iload_n 3, 1)) rfl ?_
        refine Fr.callI (y2 := 165) (na := 3) (as := [rf 73, it (s 72 2), it v3]) (rest := [it (s 72 44), rf 73]) (by decide +kernel : zi 214 97 = some (.invokevirtual 243, 3)) rfl (by decide +kernel) (by decide +kernel) rfl rfl (zok_V rfl (by decide) (by decide +kernel) (by decide +kernel) (zrecv_c (c := 72) (by decide) (by decide +kernel)) rfl (Nat.le_of_ble_eq_true rfl)) h (fun r2 s1 h => ?_)
        refine Fr.iadd (by decide +kernel : zi 214 100 = some (.iadd, 1)) ?_
        refine Fr.pI (c := 72) (ci := 8) (k := 44) 44 (by decide +kernel : zi 214 101 = some (.putfield 329, 3)) (by decide +kernel) (by decide +kernel) (by decide +kernel) (by decide) rfl ?_
        refine Fr.aldn (c := 73) (by decide +kernel : zi 214 104 = some (.aload_n 0, 1)) rfl ⟨by omega, by omega⟩ ?_
        refine Fr.ildn (by decide +kernel : zi 214 105 = some (.iload_n 3, 1)) rfl ?_
        refine Fr.pI (c := 72) (ci := 8) (k := 2) 2 (by decide +kernel : zi 214 106 = some (.putfield 129, 3)) (by decide +kernel) (by decide +kernel) (by decide +kernel) (by decide) rfl ?_
        exact Fr.retV (by decide +kernel : zi 214 109 = some (.return_, 1)) (by decide +kernel) h
    · have h := h.2 g9
      refine Fr.goto (q := 113) (by decide +kernel : zi 214 79 = some (.goto 34, 3)) (by decide +kernel) ?_
      exact h
theorem f214_113 {xs : Nat → Int} {L : Nat} {d : Nat} {v1 : Int} {v2 : Int} {v3 : Int} {w4 : Option AV} {s : Pl} {P : Pl → Prop} (h : Fr xs L T0 106 d 214 66 [some (rf 73), some (it v1), some (it v2), some (it (zw (v3 + 1))), w4] [] s (qv P)) : Fr xs L T0 106 d 214 113 [some (rf 73), some (it v1), some (it v2), some (it v3), w4] [] s (qv P) := by
  refine Fr.iinc (lv2 := [some (rf 73), some (it v1), some (it v2), some (it (zw (v3 + 1))), w4]) (by decide +kernel : zi 214 113 = some (.iinc 3 1, 3)) (Nat.le_of_ble_eq_true rfl) rfl rfl ?_
  refine Fr.goto (q := 66) (by decide +kernel : zi 214 116 = some (.goto (-50), 3)) (by decide +kernel) ?_
  exact h
-- 215 X8_draw
theorem f215_0 {xs : Nat → Int} {L : Nat} {d : Nat} {v1 : Int} {v2 : Int} {s : Pl} {P : Pl → Prop} (h : Fr xs L T0 106 d 215 13 [some (rf 73), some (it v1), some (it v2), some (lg (zl (v1 + 1))), none, some (it 0)] [] (zup s 72 44 0) (qv P)) : Fr xs L T0 106 d 215 0 [some (rf 73), some (it v1), some (it v2), none, none, none] [] s (qv P) := by
  refine Fr.aldn (c := 73) (by decide +kernel : zi 215 0 = some (.aload_n 0, 1)) rfl ⟨by omega, by omega⟩ ?_
  refine Fr.iconst (by decide +kernel : zi 215 1 = some (.iconst 0, 1)) (by decide) ?_
  refine Fr.pI (c := 72) (ci := 8) (k := 44) 44 (by decide +kernel : zi 215 2 = some (.putfield 329, 3)) (by decide +kernel) (by decide +kernel) (by decide +kernel) (by decide) rfl ?_
  refine Fr.ildn (by decide +kernel : zi 215 5 = some (.iload_n 1, 1)) rfl ?_
  refine Fr.i2l (by decide +kernel : zi 215 6 = some (.i2l, 1)) ?_
  refine Fr.lconst (by decide +kernel : zi 215 7 = some (.lconst 1, 1)) ?_
  refine Fr.ladd (by decide +kernel : zi 215 8 = some (.ladd, 1)) ?_
  refine Fr.lstn (lv2 := [some (rf 73), some (it v1), some (it v2), some (lg (zl (v1 + 1))), none, none]) (by decide +kernel : zi 215 9 = some (.lstore_n 3, 1)) (Nat.le_of_ble_eq_true rfl) rfl ?_
  refine Fr.iconst (by decide +kernel : zi 215 10 = some (.iconst 0, 1)) (by decide) ?_
  refine Fr.ist (lv2 := [some (rf 73), some (it v1), some (it v2), some (lg (zl (v1 + 1))), none, some (it 0)]) (by decide +kernel : zi 215 11 = some (.istore 5, 2)) (Nat.le_of_ble_eq_true rfl) rfl ?_
  exact h
theorem e215 {xs : Nat → Int} {L : Nat} {d : Nat} {v1 : Int} {v2 : Int} {s : Pl} {Q : Option AV → Pl → Prop} (hd : 1 ≤ d) (k : Fr xs L T0 106 (d - 1) 215 0 [some (rf 73), some (it v1), some (it v2), none, none, none] [] s Q) : Ev xs L T0 106 d 215 [rf 73, it v1, it v2] s Q := Ev.of (by decide) _ rfl hd k
theorem f215_13 {xs : Nat → Int} {L : Nat} {d : Nat} {v1 : Int} {v2 : Int} {v3 : Int} {v5 : Int} {s : Pl} {P : Pl → Prop} (h : ((v2 ≤ v5 → P s) ∧ (¬ (v2 ≤ v5) → Ev xs L T0 106 d 213 [rf 73] s (qi fun r2 s1 => (¬ (zw (r2 + 3)) = 0) ∧ Ev xs L T0 106 d 214 [rf 73, it (zw (zlrem (zlrem (zl (v3 * 48271)) 2147483647) (zw (r2 + 3))))] s1 (qv fun s3 => Fr xs L T0 106 d 215 13 [some (rf 73), some (it v1), some (it v2), some (lg (zlrem (zl (v3 * 48271)) 2147483647)), none, some (it (zw (v5 + 1)))] [] s3 (qv P)))))) : Fr xs L T0 106 d 215 13 [some (rf 73), some (it v1), some (it v2), some (lg v3), none, some (it v5)] [] s (qv P) := by
  refine Fr.ild (by decide +kernel : zi 215 13 = some (.iload 5, 2)) rfl ?_
  refine Fr.ildn (by decide +kernel : zi 215 15 = some (.iload_n 2, 1)) rfl ?_
  refine Fr.if2 (q := 49) (by decide +kernel : zi 215 16 = some (.if_icmp .ge 33, 3)) (by decide +kernel) (fun g9 => ?_) (fun g9 => ?_)
  · have h := h.1 g9
    exact Fr.retV (by decide +kernel : zi 215 49 = some (.return_, 1)) (by decide +kernel) h
  · have h := h.2 g9
    refine Fr.lldn (by decide +kernel : zi 215 19 = some (.lload_n 3, 1)) rfl ?_
    refine Fr.ldc2 (v := lg 48271) (by decide +kernel : zi 215 20 = some (.ldc2_w 332, 3)) (by decide +kernel) ?_
    refine Fr.lmul (by decide +kernel : zi 215 23 = some (.lmul, 1)) ?_
    refine Fr.ldc2 (v := lg 2147483647) (by decide +kernel : zi 215 24 = some (.ldc2_w 334, 3)) (by decide +kernel) ?_
    refine Fr.lrem (by decide +kernel : zi 215 27 = some (.lrem, 1)) (by decide) ?_
    refine Fr.lstn (lv2 := [some (rf 73), some (it v1), some (it v2), some (lg (zlrem (zl (v3 * 48271)) 2147483647)), none, some (it v5)]) (by decide +kernel : zi 215 28 = some (.lstore_n 3, 1)) (Nat.le_of_ble_eq_true rfl) rfl ?_
    refine Fr.aldn (c := 73) (by decide +kernel : zi 215 29 = some (.aload_n 0, 1)) rfl ⟨by omega, by omega⟩ ?_
    refine Fr.lldn (by decide +kernel : zi 215 30 = some (.lload_n 3, 1)) rfl ?_
    refine Fr.aldn (c := 73) (by decide +kernel : zi 215 31 = some (.aload_n 0, 1)) rfl ⟨by omega, by omega⟩ ?_
    refine Fr.callI (y2 := 213) (na := 1) (as := [rf 73]) (rest := [lg (zlrem (zl (v3 * 48271)) 2147483647), rf 73]) (by decide +kernel : zi 215 32 = some (.invokevirtual 336, 3)) rfl (by decide +kernel) (by decide +kernel) rfl rfl (zok_V rfl (by decide) (by decide +kernel) (by decide +kernel) (zrecv_c (c := 72) (by decide) (by decide +kernel)) rfl (Nat.le_of_ble_eq_true rfl)) h (fun r2 s1 h => ?_)
    refine Fr.iconst (by decide +kernel : zi 215 35 = some (.iconst 3, 1)) (by decide) ?_
    refine Fr.iadd (by decide +kernel : zi 215 36 = some (.iadd, 1)) ?_
    refine Fr.i2l (by decide +kernel : zi 215 37 = some (.i2l, 1)) ?_
    obtain ⟨g0, h⟩ := h
    refine Fr.lrem (by decide +kernel : zi 215 38 = some (.lrem, 1)) g0 ?_
    refine Fr.l2i (by decide +kernel : zi 215 39 = some (.l2i, 1)) ?_
    refine Fr.callV (y2 := 214) (na := 2) (as := [rf 73, it (zw (zlrem (zlrem (zl (v3 * 48271)) 2147483647) (zw (r2 + 3))))]) (rest := []) (by decide +kernel : zi 215 40 = some (.invokevirtual 339, 3)) rfl (by decide +kernel) (by decide +kernel) rfl rfl (zok_V rfl (by decide) (by decide +kernel) (by decide +kernel) (zrecv_c (c := 72) (by decide) (by decide +kernel)) rfl (Nat.le_of_ble_eq_true rfl)) h (fun s3 h => ?_)
    refine Fr.iinc (lv2 := [some (rf 73), some (it v1), some (it v2), some (lg (zlrem (zl (v3 * 48271)) 2147483647)), none, some (it (zw (v5 + 1)))]) (by decide +kernel : zi 215 43 = some (.iinc 5 1, 3)) (Nat.le_of_ble_eq_true rfl) rfl rfl ?_
    refine Fr.goto (q := 13) (by decide +kernel : zi 215 46 = some (.goto (-33), 3)) (by decide +kernel) ?_
    exact h
-- 216 X8_isSeed
theorem f216_0 {xs : Nat → Int} {L : Nat} {d : Nat} {v0 : Int} {s : Pl} {P : Int → Pl → Prop} (h : Ev xs L T0 106 d 132 [it v0, it 0, it 99999] s (qi fun r2 s1 => ((r2 = 0 ∨ r2 = 1) ∧ P r2 s1))) : Fr xs L T0 106 d 216 0 [some (it v0)] [] s (qi P) := by
  refine Fr.ildn (by decide +kernel : zi 216 0 = some (.iload_n 0, 1)) rfl ?_
  refine Fr.iconst (by decide +kernel : zi 216 1 = some (.iconst 0, 1)) (by decide) ?_
  refine Fr.ldcw (v := 99999) (by decide +kernel : zi 216 2 = some (.ldc_w 342, 3)) (by decide +kernel) ?_
  refine Fr.callI (y2 := 132) (na := 3) (as := [it v0, it 0, it 99999]) (rest := []) (by decide +kernel : zi 216 5 = some (.invokestatic 118, 3)) rfl (by decide +kernel) (by decide +kernel) rfl rfl (zok_S rfl (by decide) (by decide +kernel) rfl (Nat.le_of_ble_eq_true rfl)) h (fun r2 s1 h => ?_)
  exact Fr.retZ (by decide +kernel : zi 216 8 = some (.ireturn, 1)) (by decide +kernel) h.1 h.2
theorem e216 {xs : Nat → Int} {L : Nat} {d : Nat} {v0 : Int} {s : Pl} {Q : Option AV → Pl → Prop} (hd : 1 ≤ d) (k : Fr xs L T0 106 (d - 1) 216 0 [some (it v0)] [] s Q) : Ev xs L T0 106 d 216 [it v0] s Q := Ev.of (by decide) _ rfl hd k
-- 217 X8_drawn
theorem f217_0 {xs : Nat → Int} {L : Nat} {d : Nat} {v1 : Int} {v2 : Int} {v3 : Int} {s : Pl} {P : Int → Pl → Prop} (h : Ev xs L T0 106 d 216 [it v1] s (qi fun r2 s1 => ((r2 = 0 → P (-2) s1) ∧ (¬ (r2 = 0) → Ev xs L T0 106 d 132 [it v2, it 0, it 40] s1 (qi fun r4 s3 => ((r4 = 0 → P (-2) s3) ∧ (¬ (r4 = 0) → Ev xs L T0 106 d 132 [it v3, it 0, it 2] s3 (qi fun r6 s5 => ((¬ r6 = 0 → Ev xs L T0 106 d 184 [rf 73] s5 (qv fun s7 => Ev xs L T0 106 d 215 [rf 73, it v1, it v2] s7 (qv fun s8 => ((¬ v3 = 0 → ((¬ v3 = 1 → Fr xs L T0 106 d 217 66 [some (rf 73), some (it v1), some (it v2), some (it v3), none] [it (s8 72 2)] s8 (qi P)) ∧ (¬ (¬ v3 = 1) → Fr xs L T0 106 d 217 66 [some (rf 73), some (it v1), some (it v2), some (it v3), none] [it (s8 72 44)] s8 (qi P)))) ∧ (¬ (¬ v3 = 0) → Ev xs L T0 106 d 181 [rf 73] s8 (qi fun r10 s9 => Fr xs L T0 106 d 217 66 [some (rf 73), some (it v1), some (it v2), some (it v3), none] [it r10] s9 (qi P))))))) ∧ (¬ (¬ r6 = 0) → P (-2) s5)))))))))) : Fr xs L T0 106 d 217 0 [some (rf 73), some (it v1), some (it v2), some (it v3), none] [] s (qi P) := by
  refine Fr.ildn (by decide +kernel : zi 217 0 = some (.iload_n 1, 1)) rfl ?_
  refine Fr.callI (y2 := 216) (na := 1) (as := [it v1]) (rest := []) (by decide +kernel : zi 217 1 = some (.invokestatic 343, 3)) rfl (by decide +kernel) (by decide +kernel) rfl rfl (zok_S rfl (by decide) (by decide +kernel) rfl (Nat.le_of_ble_eq_true rfl)) h (fun r2 s1 h => ?_)
  refine Fr.if0 (q := 26) (by decide +kernel : zi 217 4 = some (.ifCond .eq 22, 3)) (by decide +kernel) (fun g9 => ?_) (fun g9 => ?_)
  · have h := h.1 g9
    refine Fr.bipush (by decide +kernel : zi 217 26 = some (.bipush (-2), 2)) (by decide) ?_
    exact Fr.retI (by decide +kernel : zi 217 28 = some (.ireturn, 1)) (by decide +kernel) h
  · have h := h.2 g9
    refine Fr.ildn (by decide +kernel : zi 217 7 = some (.iload_n 2, 1)) rfl ?_
    refine Fr.iconst (by decide +kernel : zi 217 8 = some (.iconst 0, 1)) (by decide) ?_
    refine Fr.bipush (by decide +kernel : zi 217 9 = some (.bipush 40, 2)) (by decide) ?_
    refine Fr.callI (y2 := 132) (na := 3) (as := [it v2, it 0, it 40]) (rest := []) (by decide +kernel : zi 217 11 = some (.invokestatic 118, 3)) rfl (by decide +kernel) (by decide +kernel) rfl rfl (zok_S rfl (by decide) (by decide +kernel) rfl (Nat.le_of_ble_eq_true rfl)) h (fun r4 s3 h => ?_)
    refine Fr.if0 (q := 26) (by decide +kernel : zi 217 14 = some (.ifCond .eq 12, 3)) (by decide +kernel) (fun g9 => ?_) (fun g9 => ?_)
    · have h := h.1 g9
      refine Fr.bipush (by decide +kernel : zi 217 26 = some (.bipush (-2), 2)) (by decide) ?_
      exact Fr.retI (by decide +kernel : zi 217 28 = some (.ireturn, 1)) (by decide +kernel) h
    · have h := h.2 g9
      refine Fr.ildn (by decide +kernel : zi 217 17 = some (.iload_n 3, 1)) rfl ?_
      refine Fr.iconst (by decide +kernel : zi 217 18 = some (.iconst 0, 1)) (by decide) ?_
      refine Fr.iconst (by decide +kernel : zi 217 19 = some (.iconst 2, 1)) (by decide) ?_
      refine Fr.callI (y2 := 132) (na := 3) (as := [it v3, it 0, it 2]) (rest := []) (by decide +kernel : zi 217 20 = some (.invokestatic 118, 3)) rfl (by decide +kernel) (by decide +kernel) rfl rfl (zok_S rfl (by decide) (by decide +kernel) rfl (Nat.le_of_ble_eq_true rfl)) h (fun r6 s5 h => ?_)
      refine Fr.if0 (q := 29) (by decide +kernel : zi 217 23 = some (.ifCond .ne 6, 3)) (by decide +kernel) (fun g9 => ?_) (fun g9 => ?_)
      · have h := h.1 g9
        refine Fr.aldn (c := 73) (by decide +kernel : zi 217 29 = some (.aload_n 0, 1)) rfl ⟨by omega, by omega⟩ ?_
        refine Fr.callV (y2 := 184) (na := 1) (as := [rf 73]) (rest := []) (by decide +kernel : zi 217 30 = some (.invokevirtual 275, 3)) rfl (by decide +kernel) (by decide +kernel) rfl rfl (zok_V rfl (by decide) (by decide +kernel) (by decide +kernel) (zrecv_c (c := 72) (by decide) (by decide +kernel)) rfl (Nat.le_of_ble_eq_true rfl)) h (fun s7 h => ?_)
        refine Fr.aldn (c := 73) (by decide +kernel : zi 217 33 = some (.aload_n 0, 1)) rfl ⟨by omega, by omega⟩ ?_
        refine Fr.ildn (by decide +kernel : zi 217 34 = some (.iload_n 1, 1)) rfl ?_
        refine Fr.ildn (by decide +kernel : zi 217 35 = some (.iload_n 2, 1)) rfl ?_
        refine Fr.callV (y2 := 215) (na := 3) (as := [rf 73, it v1, it v2]) (rest := []) (by decide +kernel : zi 217 36 = some (.invokevirtual 346, 3)) rfl (by decide +kernel) (by decide +kernel) rfl rfl (zok_V rfl (by decide) (by decide +kernel) (by decide +kernel) (zrecv_c (c := 72) (by decide) (by decide +kernel)) rfl (Nat.le_of_ble_eq_true rfl)) h (fun s8 h => ?_)
        refine Fr.ildn (by decide +kernel : zi 217 39 = some (.iload_n 3, 1)) rfl ?_
        refine Fr.if0 (q := 50) (by decide +kernel : zi 217 40 = some (.ifCond .ne 10, 3)) (by decide +kernel) (fun g9 => ?_) (fun g9 => ?_)
        · have h := h.1 g9
          refine Fr.ildn (by decide +kernel : zi 217 50 = some (.iload_n 3, 1)) rfl ?_
          refine Fr.iconst (by decide +kernel : zi 217 51 = some (.iconst 1, 1)) (by decide) ?_
          refine Fr.if2 (q := 62) (by decide +kernel : zi 217 52 = some (.if_icmp .ne 10, 3)) (by decide +kernel) (fun g9 => ?_) (fun g9 => ?_)
          · have h := h.1 g9
            refine Fr.aldn (c := 73) (by decide +kernel : zi 217 62 = some (.aload_n 0, 1)) rfl ⟨by omega, by omega⟩ ?_
            refine Fr.gI (c := 72) (ci := 8) (k := 2) (t := 0) 2 (by decide +kernel : zi 217 63 = some (.getfield 129, 3)) (by decide +kernel) (by decide +kernel) (by decide +kernel) (by decide) rfl ?_
            exact h
          · have h := h.2 g9
            refine Fr.aldn (c := 73) (by decide +kernel : zi 217 55 = some (.aload_n 0, 1)) rfl ⟨by omega, by omega⟩ ?_
            refine Fr.gI (c := 72) (ci := 8) (k := 44) (t := 0) 44 (by decide +kernel : zi 217 56 = some (.getfield 329, 3)) (by decide +kernel) (by decide +kernel) (by decide +kernel) (by decide) rfl ?_
            refine Fr.goto (q := 66) (by decide +kernel : zi 217 59 = some (.goto 7, 3)) (by decide +kernel) ?_
            exact h
        · have h := h.2 g9
          refine Fr.aldn (c := 73) (by decide +kernel : zi 217 43 = some (.aload_n 0, 1)) rfl ⟨by omega, by omega⟩ ?_
          refine Fr.callI (y2 := 181) (na := 1) (as := [rf 73]) (rest := []) (by decide +kernel : zi 217 44 = some (.invokevirtual 293, 3)) rfl (by decide +kernel) (by decide +kernel) rfl rfl (zok_V rfl (by decide) (by decide +kernel) (by decide +kernel) (zrecv_c (c := 72) (by decide) (by decide +kernel)) rfl (Nat.le_of_ble_eq_true rfl)) h (fun r10 s9 h => ?_)
          refine Fr.goto (q := 66) (by decide +kernel : zi 217 47 = some (.goto 19, 3)) (by decide +kernel) ?_
          exact h
      · have h := h.2 g9
        refine Fr.bipush (by decide +kernel : zi 217 26 = some (.bipush (-2), 2)) (by decide) ?_
        exact Fr.retI (by decide +kernel : zi 217 28 = some (.ireturn, 1)) (by decide +kernel) h
theorem e217 {xs : Nat → Int} {L : Nat} {d : Nat} {v1 : Int} {v2 : Int} {v3 : Int} {s : Pl} {Q : Option AV → Pl → Prop} (hd : 1 ≤ d) (k : Fr xs L T0 106 (d - 1) 217 0 [some (rf 73), some (it v1), some (it v2), some (it v3), none] [] s Q) : Ev xs L T0 106 d 217 [rf 73, it v1, it v2, it v3] s Q := Ev.of (by decide) _ rfl hd k
theorem f217_66 {xs : Nat → Int} {L : Nat} {d : Nat} {v1 : Int} {v2 : Int} {v3 : Int} {vs0 : Int} {s : Pl} {P : Int → Pl → Prop} (h : Ev xs L T0 106 d 185 [rf 73] s (qv fun s1 => P vs0 s1)) : Fr xs L T0 106 d 217 66 [some (rf 73), some (it v1), some (it v2), some (it v3), none] [it vs0] s (qi P) := by
  refine Fr.ist (lv2 := [some (rf 73), some (it v1), some (it v2), some (it v3), some (it vs0)]) (by decide +kernel : zi 217 66 = some (.istore 4, 2)) (Nat.le_of_ble_eq_true rfl) rfl ?_
  refine Fr.aldn (c := 73) (by decide +kernel : zi 217 68 = some (.aload_n 0, 1)) rfl ⟨by omega, by omega⟩ ?_
  refine Fr.callV (y2 := 185) (na := 1) (as := [rf 73]) (rest := []) (by decide +kernel : zi 217 69 = some (.invokevirtual 281, 3)) rfl (by decide +kernel) (by decide +kernel) rfl rfl (zok_V rfl (by decide) (by decide +kernel) (by decide +kernel) (zrecv_c (c := 72) (by decide) (by decide +kernel)) rfl (Nat.le_of_ble_eq_true rfl)) h (fun s1 h => ?_)
  refine Fr.ild (by decide +kernel : zi 217 72 = some (.iload 4, 2)) rfl ?_
  exact Fr.retI (by decide +kernel : zi 217 74 = some (.ireturn, 1)) (by decide +kernel) h
-- 218 X8_chance
theorem f218_0 {xs : Nat → Int} {L : Nat} {d : Nat} {v1 : Int} {v2 : Int} {v3 : Int} {v4 : Int} {s : Pl} {P : Int → Pl → Prop} (h : Ev xs L T0 106 d 135 [rf 73, it v1] s (qi fun r2 s1 => ((r2 = 0 → P (-4611686018427387904) s1) ∧ (¬ (r2 = 0) → Ev xs L T0 106 d 216 [it v2] s1 (qi fun r4 s3 => ((r4 = 0 → P (-4611686018427387904) s3) ∧ (¬ (r4 = 0) → ((v3 < 0 → P (-4611686018427387904) s3) ∧ (¬ (v3 < 0) → Ev xs L T0 106 d 132 [it (zdiv v3 100), it 1, it 20] s3 (qi fun r6 s5 => ((r6 = 0 → P (-4611686018427387904) s5) ∧ (¬ (r6 = 0) → ((40 < zrem v3 100 → P (-4611686018427387904) s5) ∧ (¬ (40 < zrem v3 100) → Ev xs L T0 106 d 132 [it v4, it 0, it 1] s5 (qi fun r8 s7 => ((¬ r8 = 0 → Fr xs L T0 106 d 218 67 [some (rf 73), some (it v1), some (it v2), some (it v3), some (it v4), some (it 0), some (it (zdiv v3 100)), some (it 0), none, none] [] s7 (ql P)) ∧ (¬ (¬ r8 = 0) → P (-4611686018427387904) s7))))))))))))))))) : Fr xs L T0 106 d 218 0 [some (rf 73), some (it v1), some (it v2), some (it v3), some (it v4), none, none, none, none, none] [] s (ql P) := by
  refine Fr.aldn (c := 73) (by decide +kernel : zi 218 0 = some (.aload_n 0, 1)) rfl ⟨by omega, by omega⟩ ?_
  refine Fr.ildn (by decide +kernel : zi 218 1 = some (.iload_n 1, 1)) rfl ?_
  refine Fr.callI (y2 := 135) (na := 2) (as := [rf 73, it v1]) (rest := []) (by decide +kernel : zi 218 2 = some (.invokevirtual 237, 3)) rfl (by decide +kernel) (by decide +kernel) rfl rfl (zok_V rfl (by decide) (by decide +kernel) (by decide +kernel) (zrecv_c (c := 72) (by decide) (by decide +kernel)) rfl (Nat.le_of_ble_eq_true rfl)) h (fun r2 s1 h => ?_)
  refine Fr.if0 (q := 51) (by decide +kernel : zi 218 5 = some (.ifCond .eq 46, 3)) (by decide +kernel) (fun g9 => ?_) (fun g9 => ?_)
  · have h := h.1 g9
    refine Fr.ldc2 (v := lg (-4611686018427387904)) (by decide +kernel : zi 218 51 = some (.ldc2_w 349, 3)) (by decide +kernel) ?_
    exact Fr.retL (by decide +kernel : zi 218 54 = some (.lreturn, 1)) (by decide +kernel) h
  · have h := h.2 g9
    refine Fr.ildn (by decide +kernel : zi 218 8 = some (.iload_n 2, 1)) rfl ?_
    refine Fr.callI (y2 := 216) (na := 1) (as := [it v2]) (rest := []) (by decide +kernel : zi 218 9 = some (.invokestatic 343, 3)) rfl (by decide +kernel) (by decide +kernel) rfl rfl (zok_S rfl (by decide) (by decide +kernel) rfl (Nat.le_of_ble_eq_true rfl)) h (fun r4 s3 h => ?_)
    refine Fr.if0 (q := 51) (by decide +kernel : zi 218 12 = some (.ifCond .eq 39, 3)) (by decide +kernel) (fun g9 => ?_) (fun g9 => ?_)
    · have h := h.1 g9
      refine Fr.ldc2 (v := lg (-4611686018427387904)) (by decide +kernel : zi 218 51 = some (.ldc2_w 349, 3)) (by decide +kernel) ?_
      exact Fr.retL (by decide +kernel : zi 218 54 = some (.lreturn, 1)) (by decide +kernel) h
    · have h := h.2 g9
      refine Fr.ildn (by decide +kernel : zi 218 15 = some (.iload_n 3, 1)) rfl ?_
      refine Fr.if0 (q := 51) (by decide +kernel : zi 218 16 = some (.ifCond .lt 35, 3)) (by decide +kernel) (fun g9 => ?_) (fun g9 => ?_)
      · have h := h.1 g9
        refine Fr.ldc2 (v := lg (-4611686018427387904)) (by decide +kernel : zi 218 51 = some (.ldc2_w 349, 3)) (by decide +kernel) ?_
        exact Fr.retL (by decide +kernel : zi 218 54 = some (.lreturn, 1)) (by decide +kernel) h
      · have h := h.2 g9
        refine Fr.ildn (by decide +kernel : zi 218 19 = some (.iload_n 3, 1)) rfl ?_
        refine Fr.bipush (by decide +kernel : zi 218 20 = some (.bipush 100, 2)) (by decide) ?_
        refine Fr.idiv (by decide +kernel : zi 218 22 = some (.idiv, 1)) (by decide) ?_
        refine Fr.iconst (by decide +kernel : zi 218 23 = some (.iconst 1, 1)) (by decide) ?_
        refine Fr.bipush (by decide +kernel : zi 218 24 = some (.bipush 20, 2)) (by decide) ?_
        refine Fr.callI (y2 := 132) (na := 3) (as := [it (zdiv v3 100), it 1, it 20]) (rest := []) (by decide +kernel : zi 218 26 = some (.invokestatic 118, 3)) rfl (by decide +kernel) (by decide +kernel) rfl rfl (zok_S rfl (by decide) (by decide +kernel) rfl (Nat.le_of_ble_eq_true rfl)) h (fun r6 s5 h => ?_)
        refine Fr.if0 (q := 51) (by decide +kernel : zi 218 29 = some (.ifCond .eq 22, 3)) (by decide +kernel) (fun g9 => ?_) (fun g9 => ?_)
        · have h := h.1 g9
          refine Fr.ldc2 (v := lg (-4611686018427387904)) (by decide +kernel : zi 218 51 = some (.ldc2_w 349, 3)) (by decide +kernel) ?_
          exact Fr.retL (by decide +kernel : zi 218 54 = some (.lreturn, 1)) (by decide +kernel) h
        · have h := h.2 g9
          refine Fr.ildn (by decide +kernel : zi 218 32 = some (.iload_n 3, 1)) rfl ?_
          refine Fr.bipush (by decide +kernel : zi 218 33 = some (.bipush 100, 2)) (by decide) ?_
          refine Fr.irem (by decide +kernel : zi 218 35 = some (.irem, 1)) (by decide) ?_
          refine Fr.bipush (by decide +kernel : zi 218 36 = some (.bipush 40, 2)) (by decide) ?_
          refine Fr.if2 (q := 51) (by decide +kernel : zi 218 38 = some (.if_icmp .gt 13, 3)) (by decide +kernel) (fun g9 => ?_) (fun g9 => ?_)
          · have h := h.1 g9
            refine Fr.ldc2 (v := lg (-4611686018427387904)) (by decide +kernel : zi 218 51 = some (.ldc2_w 349, 3)) (by decide +kernel) ?_
            exact Fr.retL (by decide +kernel : zi 218 54 = some (.lreturn, 1)) (by decide +kernel) h
          · have h := h.2 g9
            refine Fr.ild (by decide +kernel : zi 218 41 = some (.iload 4, 2)) rfl ?_
            refine Fr.iconst (by decide +kernel : zi 218 43 = some (.iconst 0, 1)) (by decide) ?_
            refine Fr.iconst (by decide +kernel : zi 218 44 = some (.iconst 1, 1)) (by decide) ?_
            refine Fr.callI (y2 := 132) (na := 3) (as := [it v4, it 0, it 1]) (rest := []) (by decide +kernel : zi 218 45 = some (.invokestatic 118, 3)) rfl (by decide +kernel) (by decide +kernel) rfl rfl (zok_S rfl (by decide) (by decide +kernel) rfl (Nat.le_of_ble_eq_true rfl)) h (fun r8 s7 h => ?_)
            refine Fr.if0 (q := 55) (by decide +kernel : zi 218 48 = some (.ifCond .ne 7, 3)) (by decide +kernel) (fun g9 => ?_) (fun g9 => ?_)
            · have h := h.1 g9
              refine Fr.iconst (by decide +kernel : zi 218 55 = some (.iconst 0, 1)) (by decide) ?_
              refine Fr.ist (lv2 := [some (rf 73), some (it v1), some (it v2), some (it v3), some (it v4), some (it 0), none, none, none, none]) (by decide +kernel : zi 218 56 = some (.istore 5, 2)) (Nat.le_of_ble_eq_true rfl) rfl ?_
              refine Fr.ildn (by decide +kernel : zi 218 58 = some (.iload_n 3, 1)) rfl ?_
              refine Fr.bipush (by decide +kernel : zi 218 59 = some (.bipush 100, 2)) (by decide) ?_
              refine Fr.idiv (by decide +kernel : zi 218 61 = some (.idiv, 1)) (by decide) ?_
              refine Fr.ist (lv2 := [some (rf 73), some (it v1), some (it v2), some (it v3), some (it v4), some (it 0), some (it (zdiv v3 100)), none, none, none]) (by decide +kernel : zi 218 62 = some (.istore 6, 2)) (Nat.le_of_ble_eq_true rfl) rfl ?_
              refine Fr.iconst (by decide +kernel : zi 218 64 = some (.iconst 0, 1)) (by decide) ?_
              refine Fr.ist (lv2 := [some (rf 73), some (it v1), some (it v2), some (it v3), some (it v4), some (it 0), some (it (zdiv v3 100)), some (it 0), none, none]) (by decide +kernel : zi 218 65 = some (.istore 7, 2)) (Nat.le_of_ble_eq_true rfl) rfl ?_
              exact h
            · have h := h.2 g9
              refine Fr.ldc2 (v := lg (-4611686018427387904)) (by decide +kernel : zi 218 51 = some (.ldc2_w 349, 3)) (by decide +kernel) ?_
              exact Fr.retL (by decide +kernel : zi 218 54 = some (.lreturn, 1)) (by decide +kernel) h
theorem e218 {xs : Nat → Int} {L : Nat} {d : Nat} {v1 : Int} {v2 : Int} {v3 : Int} {v4 : Int} {s : Pl} {Q : Option AV → Pl → Prop} (hd : 1 ≤ d) (k : Fr xs L T0 106 (d - 1) 218 0 [some (rf 73), some (it v1), some (it v2), some (it v3), some (it v4), none, none, none, none, none] [] s Q) : Ev xs L T0 106 d 218 [rf 73, it v1, it v2, it v3, it v4] s Q := Ev.of (by decide) _ rfl hd k
theorem f218_67 {xs : Nat → Int} {L : Nat} {d : Nat} {v1 : Int} {v2 : Int} {v3 : Int} {v4 : Int} {v5 : Int} {v6 : Int} {v7 : Int} {s : Pl} {P : Int → Pl → Prop} (h : ((v6 ≤ v7 → ((¬ v5 = 0 → Fr xs L T0 106 d 218 135 [some (rf 73), some (it v1), some (it v2), some (it v3), some (it v4), some (it v5), some (it v6), some (it v5), some (it v6), none] [] s (ql P)) ∧ (¬ (¬ v5 = 0) → ((¬ v4 = 0 → P 1 s) ∧ (¬ (¬ v4 = 0) → P 0 s))))) ∧ (¬ (v6 ≤ v7) → Ev xs L T0 106 d 184 [rf 73] s (qv fun s1 => Ev xs L T0 106 d 215 [rf 73, it (zw (v2 + v7)), it (zrem v3 100)] s1 (qv fun s2 => Ev xs L T0 106 d 180 [rf 73, it v1] s2 (qi fun r4 s3 => ((r4 = 0 → Fr xs L T0 106 d 218 101 [some (rf 73), some (it v1), some (it v2), some (it v3), some (it v4), some (it v5), some (it v6), some (it v7), none, none] [] s3 (ql P)) ∧ (¬ (r4 = 0) → Fr xs L T0 106 d 218 101 [some (rf 73), some (it v1), some (it v2), some (it v3), some (it v4), some (it (zw (v5 + 1))), some (it v6), some (it v7), none, none] [] s3 (ql P))))))))) : Fr xs L T0 106 d 218 67 [some (rf 73), some (it v1), some (it v2), some (it v3), some (it v4), some (it v5), some (it v6), some (it v7), none, none] [] s (ql P) := by
  refine Fr.ild (by decide +kernel : zi 218 67 = some (.iload 7, 2)) rfl ?_
  refine Fr.ild (by decide +kernel : zi 218 69 = some (.iload 6, 2)) rfl ?_
  refine Fr.if2 (q := 111) (by decide +kernel : zi 218 71 = some (.if_icmp .ge 40, 3)) (by decide +kernel) (fun g9 => ?_) (fun g9 => ?_)
  · have h := h.1 g9
    refine Fr.ild (by decide +kernel : zi 218 111 = some (.iload 5, 2)) rfl ?_
    refine Fr.if0 (q := 127) (by decide +kernel : zi 218 113 = some (.ifCond .ne 14, 3)) (by decide +kernel) (fun g9 => ?_) (fun g9 => ?_)
    · have h := h.1 g9
      refine Fr.ild (by decide +kernel : zi 218 127 = some (.iload 5, 2)) rfl ?_
      refine Fr.ist (lv2 := [some (rf 73), some (it v1), some (it v2), some (it v3), some (it v4), some (it v5), some (it v6), some (it v5), none, none]) (by decide +kernel : zi 218 129 = some (.istore 7, 2)) (Nat.le_of_ble_eq_true rfl) rfl ?_
      refine Fr.ild (by decide +kernel : zi 218 131 = some (.iload 6, 2)) rfl ?_
      refine Fr.ist (lv2 := [some (rf 73), some (it v1), some (it v2), some (it v3), some (it v4), some (it v5), some (it v6), some (it v5), some (it v6), none]) (by decide +kernel : zi 218 133 = some (.istore 8, 2)) (Nat.le_of_ble_eq_true rfl) rfl ?_
      exact h
    · have h := h.2 g9
      refine Fr.ild (by decide +kernel : zi 218 116 = some (.iload 4, 2)) rfl ?_
      refine Fr.if0 (q := 125) (by decide +kernel : zi 218 118 = some (.ifCond .ne 7, 3)) (by decide +kernel) (fun g9 => ?_) (fun g9 => ?_)
      · have h := h.1 g9
        refine Fr.lconst (by decide +kernel : zi 218 125 = some (.lconst 1, 1)) ?_
        exact Fr.retL (by decide +kernel : zi 218 126 = some (.lreturn, 1)) (by decide +kernel) h
      · have h := h.2 g9
        refine Fr.lconst (by decide +kernel : zi 218 121 = some (.lconst 0, 1)) ?_
        refine Fr.goto (q := 126) (by decide +kernel : zi 218 122 = some (.goto 4, 3)) (by decide +kernel) ?_
        exact Fr.retL (by decide +kernel : zi 218 126 = some (.lreturn, 1)) (by decide +kernel) h
  · have h := h.2 g9
    refine Fr.aldn (c := 73) (by decide +kernel : zi 218 74 = some (.aload_n 0, 1)) rfl ⟨by omega, by omega⟩ ?_
    refine Fr.callV (y2 := 184) (na := 1) (as := [rf 73]) (rest := []) (by decide +kernel : zi 218 75 = some (.invokevirtual 275, 3)) rfl (by decide +kernel) (by decide +kernel) rfl rfl (zok_V rfl (by decide) (by decide +kernel) (by decide +kernel) (zrecv_c (c := 72) (by decide) (by decide +kernel)) rfl (Nat.le_of_ble_eq_true rfl)) h (fun s1 h => ?_)
    refine Fr.aldn (c := 73) (by decide +kernel : zi 218 78 = some (.aload_n 0, 1)) rfl ⟨by omega, by omega⟩ ?_
    refine Fr.ildn (by decide +kernel : zi 218 79 = some (.iload_n 2, 1)) rfl ?_
    refine Fr.ild (by decide +kernel : zi 218 80 = some (.iload 7, 2)) rfl ?_
    refine Fr.iadd (by decide +kernel : zi 218 82 = some (.iadd, 1)) ?_
    refine Fr.ildn (by decide +kernel : zi 218 83 = some (.iload_n 3, 1)) rfl ?_
    refine Fr.bipush (by decide +kernel : zi 218 84 = some (.bipush 100, 2)) (by decide) ?_
    refine Fr.irem (by decide +kernel : zi 218 86 = some (.irem, 1)) (by decide) ?_
    refine Fr.callV (y2 := 215) (na := 3) (as := [rf 73, it (zw (v2 + v7)), it (zrem v3 100)]) (rest := []) (by decide +kernel : zi 218 87 = some (.invokevirtual 346, 3)) rfl (by decide +kernel) (by decide +kernel) rfl rfl (zok_V rfl (by decide) (by decide +kernel) (by decide +kernel) (zrecv_c (c := 72) (by decide) (by decide +kernel)) rfl (Nat.le_of_ble_eq_true rfl)) h (fun s2 h => ?_)
    refine Fr.aldn (c := 73) (by decide +kernel : zi 218 90 = some (.aload_n 0, 1)) rfl ⟨by omega, by omega⟩ ?_
    refine Fr.ildn (by decide +kernel : zi 218 91 = some (.iload_n 1, 1)) rfl ?_
    refine Fr.callI (y2 := 180) (na := 2) (as := [rf 73, it v1]) (rest := []) (by decide +kernel : zi 218 92 = some (.invokevirtual 269, 3)) rfl (by decide +kernel) (by decide +kernel) rfl rfl (zok_V rfl (by decide) (by decide +kernel) (by decide +kernel) (zrecv_c (c := 72) (by decide) (by decide +kernel)) rfl (Nat.le_of_ble_eq_true rfl)) h (fun r4 s3 h => ?_)
    refine Fr.if0 (q := 101) (by decide +kernel : zi 218 95 = some (.ifCond .eq 6, 3)) (by decide +kernel) (fun g9 => ?_) (fun g9 => ?_)
    · have h := h.1 g9
      exact h
    · have h := h.2 g9
      refine Fr.iinc (lv2 := [some (rf 73), some (it v1), some (it v2), some (it v3), some (it v4), some (it (zw (v5 + 1))), some (it v6), some (it v7), none, none]) (by decide +kernel : zi 218 98 = some (.iinc 5 1, 3)) (Nat.le_of_ble_eq_true rfl) rfl rfl ?_
      exact h
theorem f218_101 {xs : Nat → Int} {L : Nat} {d : Nat} {v1 : Int} {v2 : Int} {v3 : Int} {v4 : Int} {v5 : Int} {v6 : Int} {v7 : Int} {s : Pl} {P : Int → Pl → Prop} (h : Ev xs L T0 106 d 185 [rf 73] s (qv fun s1 => Fr xs L T0 106 d 218 67 [some (rf 73), some (it v1), some (it v2), some (it v3), some (it v4), some (it v5), some (it v6), some (it (zw (v7 + 1))), none, none] [] s1 (ql P))) : Fr xs L T0 106 d 218 101 [some (rf 73), some (it v1), some (it v2), some (it v3), some (it v4), some (it v5), some (it v6), some (it v7), none, none] [] s (ql P) := by
  refine Fr.aldn (c := 73) (by decide +kernel : zi 218 101 = some (.aload_n 0, 1)) rfl ⟨by omega, by omega⟩ ?_
  refine Fr.callV (y2 := 185) (na := 1) (as := [rf 73]) (rest := []) (by decide +kernel : zi 218 102 = some (.invokevirtual 281, 3)) rfl (by decide +kernel) (by decide +kernel) rfl rfl (zok_V rfl (by decide) (by decide +kernel) (by decide +kernel) (zrecv_c (c := 72) (by decide) (by decide +kernel)) rfl (Nat.le_of_ble_eq_true rfl)) h (fun s1 h => ?_)
  refine Fr.iinc (lv2 := [some (rf 73), some (it v1), some (it v2), some (it v3), some (it v4), some (it v5), some (it v6), some (it (zw (v7 + 1))), none, none]) (by decide +kernel : zi 218 105 = some (.iinc 7 1, 3)) (Nat.le_of_ble_eq_true rfl) rfl rfl ?_
  refine Fr.goto (q := 67) (by decide +kernel : zi 218 108 = some (.goto (-41), 3)) (by decide +kernel) ?_
  exact h
theorem f218_135 {xs : Nat → Int} {L : Nat} {d : Nat} {v1 : Int} {v2 : Int} {v3 : Int} {v4 : Int} {v5 : Int} {v6 : Int} {v7 : Int} {v8 : Int} {w9 : Option AV} {s : Pl} {P : Int → Pl → Prop} (h : ((v8 = 0 → ((¬ v4 = 0 → (¬ v7 = 0) ∧ P (zdiv v6 v7) s) ∧ (¬ (¬ v4 = 0) → (¬ v7 = 0) ∧ P (zdiv v5 v7) s))) ∧ (¬ (v8 = 0) → (¬ v8 = 0) ∧ Fr xs L T0 106 d 218 135 [some (rf 73), some (it v1), some (it v2), some (it v3), some (it v4), some (it v5), some (it v6), some (it v8), some (it (zrem v7 v8)), some (it (zrem v7 v8))] [] s (ql P)))) : Fr xs L T0 106 d 218 135 [some (rf 73), some (it v1), some (it v2), some (it v3), some (it v4), some (it v5), some (it v6), some (it v7), some (it v8), w9] [] s (ql P) := by
  refine Fr.ild (by decide +kernel : zi 218 135 = some (.iload 8, 2)) rfl ?_
  refine Fr.if0 (q := 158) (by decide +kernel : zi 218 137 = some (.ifCond .eq 21, 3)) (by decide +kernel) (fun g9 => ?_) (fun g9 => ?_)
  · have h := h.1 g9
    refine Fr.ild (by decide +kernel : zi 218 158 = some (.iload 4, 2)) rfl ?_
    refine Fr.if0 (q := 172) (by decide +kernel : zi 218 160 = some (.ifCond .ne 12, 3)) (by decide +kernel) (fun g9 => ?_) (fun g9 => ?_)
    · have h := h.1 g9
      refine Fr.ild (by decide +kernel : zi 218 172 = some (.iload 6, 2)) rfl ?_
      refine Fr.ild (by decide +kernel : zi 218 174 = some (.iload 7, 2)) rfl ?_
      obtain ⟨g0, h⟩ := h
      refine Fr.idiv (by decide +kernel : zi 218 176 = some (.idiv, 1)) g0 ?_
      refine Fr.i2l (by decide +kernel : zi 218 177 = some (.i2l, 1)) ?_
      exact Fr.retL (by decide +kernel : zi 218 178 = some (.lreturn, 1)) (by decide +kernel) h
    · have h := h.2 g9
      refine Fr.ild (by decide +kernel : zi 218 163 = some (.iload 5, 2)) rfl ?_
      refine Fr.ild (by decide +kernel : zi 218 165 = some (.iload 7, 2)) rfl ?_
      obtain ⟨g0, h⟩ := h
      refine Fr.idiv (by decide +kernel : zi 218 167 = some (.idiv, 1)) g0 ?_
      refine Fr.i2l (by decide +kernel : zi 218 168 = some (.i2l, 1)) ?_
      refine Fr.goto (q := 178) (by decide +kernel : zi 218 169 = some (.goto 9, 3)) (by decide +kernel) ?_
      exact Fr.retL (by decide +kernel : zi 218 178 = some (.lreturn, 1)) (by decide +kernel) h
  · have h := h.2 g9
    refine Fr.ild (by decide +kernel : zi 218 140 = some (.iload 7, 2)) rfl ?_
    refine Fr.ild (by decide +kernel : zi 218 142 = some (.iload 8, 2)) rfl ?_
    obtain ⟨g0, h⟩ := h
    refine Fr.irem (by decide +kernel : zi 218 144 = some (.irem, 1)) g0 ?_
    refine Fr.ist (lv2 := [some (rf 73), some (it v1), some (it v2), some (it v3), some (it v4), some (it v5), some (it v6), some (it v7), some (it v8), some (it (zrem v7 v8))]) (by decide +kernel : zi 218 145 = some (.istore 9, 2)) (Nat.le_of_ble_eq_true rfl) rfl ?_
    refine Fr.ild (by decide +kernel : zi 218 147 = some (.iload 8, 2)) rfl ?_
    refine Fr.ist (lv2 := [some (rf 73), some (it v1), some (it v2), some (it v3), some (it v4), some (it v5), some (it v6), some (it v8), some (it v8), some (it (zrem v7 v8))]) (by decide +kernel : zi 218 149 = some (.istore 7, 2)) (Nat.le_of_ble_eq_true rfl) rfl ?_
    refine Fr.ild (by decide +kernel : zi 218 151 = some (.iload 9, 2)) rfl ?_
    refine Fr.ist (lv2 := [some (rf 73), some (it v1), some (it v2), some (it v3), some (it v4), some (it v5), some (it v6), some (it v8), some (it (zrem v7 v8)), some (it (zrem v7 v8))]) (by decide +kernel : zi 218 153 = some (.istore 8, 2)) (Nat.le_of_ble_eq_true rfl) rfl ?_
    refine Fr.goto (q := 135) (by decide +kernel : zi 218 155 = some (.goto (-20), 3)) (by decide +kernel) ?_
    exact h
-- 219 X8_image
theorem f219_0 {xs : Nat → Int} {L : Nat} {d : Nat}  {s : Pl} {P : Int → Pl → Prop} (h : Fr xs L T0 106 d 219 31 [some (rf 73), some (it 0)] [] (zup (zup (zup (zup s 72 45 1) 72 46 ((zup s 72 45 1) 72 3)) 72 47 ((zup (zup s 72 45 1) 72 46 ((zup s 72 45 1) 72 3)) 72 2)) 72 48 ((zup (zup (zup s 72 45 1) 72 46 ((zup s 72 45 1) 72 3)) 72 47 ((zup (zup s 72 45 1) 72 46 ((zup s 72 45 1) 72 3)) 72 2)) 72 14)) (qi P)) : Fr xs L T0 106 d 219 0 [some (rf 73), none] [] s (qi P) := by
  refine Fr.aldn (c := 73) (by decide +kernel : zi 219 0 = some (.aload_n 0, 1)) rfl ⟨by omega, by omega⟩ ?_
  refine Fr.iconst (by decide +kernel : zi 219 1 = some (.iconst 1, 1)) (by decide) ?_
  refine Fr.pZ (c := 72) (ci := 8) (k := 45) 45 (by decide +kernel : zi 219 2 = some (.putfield 351, 3)) (by decide +kernel) (by decide +kernel) (by decide) (by decide +kernel) (by decide) rfl ?_
  refine Fr.aldn (c := 73) (by decide +kernel : zi 219 5 = some (.aload_n 0, 1)) rfl ⟨by omega, by omega⟩ ?_
  refine Fr.aldn (c := 73) (by decide +kernel : zi 219 6 = some (.aload_n 0, 1)) rfl ⟨by omega, by omega⟩ ?_
  refine Fr.gI (c := 72) (ci := 8) (k := 3) (t := 0) 3 (by decide +kernel : zi 219 7 = some (.getfield 122, 3)) (by decide +kernel) (by decide +kernel) (by decide +kernel) (by decide) rfl ?_
  refine Fr.pI (c := 72) (ci := 8) (k := 46) 46 (by decide +kernel : zi 219 10 = some (.putfield 355, 3)) (by decide +kernel) (by decide +kernel) (by decide +kernel) (by decide) rfl ?_
  refine Fr.aldn (c := 73) (by decide +kernel : zi 219 13 = some (.aload_n 0, 1)) rfl ⟨by omega, by omega⟩ ?_
  refine Fr.aldn (c := 73) (by decide +kernel : zi 219 14 = some (.aload_n 0, 1)) rfl ⟨by omega, by omega⟩ ?_
  refine Fr.gI (c := 72) (ci := 8) (k := 2) (t := 0) 2 (by decide +kernel : zi 219 15 = some (.getfield 129, 3)) (by decide +kernel) (by decide +kernel) (by decide +kernel) (by decide) rfl ?_
  refine Fr.pI (c := 72) (ci := 8) (k := 47) 47 (by decide +kernel : zi 219 18 = some (.putfield 358, 3)) (by decide +kernel) (by decide +kernel) (by decide +kernel) (by decide) rfl ?_
  refine Fr.aldn (c := 73) (by decide +kernel : zi 219 21 = some (.aload_n 0, 1)) rfl ⟨by omega, by omega⟩ ?_
  refine Fr.aldn (c := 73) (by decide +kernel : zi 219 22 = some (.aload_n 0, 1)) rfl ⟨by omega, by omega⟩ ?_
  refine Fr.gI (c := 72) (ci := 8) (k := 14) (t := 0) 14 (by decide +kernel : zi 219 23 = some (.getfield 139, 3)) (by decide +kernel) (by decide +kernel) (by decide +kernel) (by decide) rfl ?_
  refine Fr.pI (c := 72) (ci := 8) (k := 48) 48 (by decide +kernel : zi 219 26 = some (.putfield 361, 3)) (by decide +kernel) (by decide +kernel) (by decide +kernel) (by decide) rfl ?_
  refine Fr.iconst (by decide +kernel : zi 219 29 = some (.iconst 0, 1)) (by decide) ?_
  refine Fr.istn (lv2 := [some (rf 73), some (it 0)]) (by decide +kernel : zi 219 30 = some (.istore_n 1, 1)) (Nat.le_of_ble_eq_true rfl) rfl ?_
  exact h
theorem e219 {xs : Nat → Int} {L : Nat} {d : Nat}  {s : Pl} {Q : Option AV → Pl → Prop} (hd : 1 ≤ d) (k : Fr xs L T0 106 (d - 1) 219 0 [some (rf 73), none] [] s Q) : Ev xs L T0 106 d 219 [rf 73] s Q := Ev.of (by decide) _ rfl hd k
theorem f219_31 {xs : Nat → Int} {L : Nat} {d : Nat} {v1 : Int} {s : Pl} {P : Int → Pl → Prop} (h : ((6 ≤ v1 → Fr xs L T0 106 d 219 69 [some (rf 73), some (it 0)] [] s (qi P)) ∧ (¬ (6 ≤ v1) → (0 ≤ v1 ∧ v1 < 7) ∧ (0 ≤ v1 ∧ v1 < 6) ∧ (0 ≤ v1 ∧ v1 < 7) ∧ (0 ≤ v1 ∧ v1 < 6) ∧ Fr xs L T0 106 d 219 31 [some (rf 73), some (it (zw (v1 + 1)))] [] (zup (zup s 99 v1 (s 75 v1)) 100 v1 ((zup s 99 v1 (s 75 v1)) 80 v1)) (qi P)))) : Fr xs L T0 106 d 219 31 [some (rf 73), some (it v1)] [] s (qi P) := by
  refine Fr.ildn (by decide +kernel : zi 219 31 = some (.iload_n 1, 1)) rfl ?_
  refine Fr.bipush (by decide +kernel : zi 219 32 = some (.bipush 6, 2)) (by decide) ?_
  refine Fr.if2 (q := 67) (by decide +kernel : zi 219 34 = some (.if_icmp .ge 33, 3)) (by decide +kernel) (fun g9 => ?_) (fun g9 => ?_)
  · have h := h.1 g9
    refine Fr.iconst (by decide +kernel : zi 219 67 = some (.iconst 0, 1)) (by decide) ?_
    refine Fr.istn (lv2 := [some (rf 73), some (it 0)]) (by decide +kernel : zi 219 68 = some (.istore_n 1, 1)) (Nat.le_of_ble_eq_true rfl) rfl ?_
    exact h
  · have h := h.2 g9
    refine Fr.aldn (c := 73) (by decide +kernel : zi 219 37 = some (.aload_n 0, 1)) rfl ⟨by omega, by omega⟩ ?_
    refine Fr.gR (c := 72) (c2 := 100) (ci := 8) (k := 49) 49 (by decide +kernel : zi 219 38 = some (.getfield 94, 3)) (by decide +kernel) (by decide +kernel) (by decide +kernel) (by decide) rfl (fun q => q (72, 49, 100) (by decide +kernel)) ?_
    refine Fr.ildn (by decide +kernel : zi 219 41 = some (.iload_n 1, 1)) rfl ?_
    refine Fr.aldn (c := 73) (by decide +kernel : zi 219 42 = some (.aload_n 0, 1)) rfl ⟨by omega, by omega⟩ ?_
    refine Fr.gR (c := 72) (c2 := 76) (ci := 8) (k := 5) 5 (by decide +kernel : zi 219 43 = some (.getfield 16, 3)) (by decide +kernel) (by decide +kernel) (by decide +kernel) (by decide) rfl (fun q => q (72, 5, 76) (by decide +kernel)) ?_
    refine Fr.ildn (by decide +kernel : zi 219 46 = some (.iload_n 1, 1)) rfl ?_
    obtain ⟨⟨g0, g1⟩, h⟩ := h
    refine Fr.iald (c := 75) (N := 7) (by decide +kernel : zi 219 47 = some (.iaload, 1)) (by decide +kernel) (by decide) g0 g1 ?_
    obtain ⟨⟨g0, g1⟩, h⟩ := h
    refine Fr.iast (c := 99) (N := 6) (by decide +kernel : zi 219 48 = some (.iastore, 1)) (by decide +kernel) (by decide) g0 g1 ?_
    refine Fr.aldn (c := 73) (by decide +kernel : zi 219 49 = some (.aload_n 0, 1)) rfl ⟨by omega, by omega⟩ ?_
    refine Fr.gR (c := 72) (c2 := 101) (ci := 8) (k := 50) 50 (by decide +kernel : zi 219 50 = some (.getfield 97, 3)) (by decide +kernel) (by decide +kernel) (by decide +kernel) (by decide) rfl (fun q => q (72, 50, 101) (by decide +kernel)) ?_
    refine Fr.ildn (by decide +kernel : zi 219 53 = some (.iload_n 1, 1)) rfl ?_
    refine Fr.aldn (c := 73) (by decide +kernel : zi 219 54 = some (.aload_n 0, 1)) rfl ⟨by omega, by omega⟩ ?_
    refine Fr.gR (c := 72) (c2 := 81) (ci := 8) (k := 10) 10 (by decide +kernel : zi 219 55 = some (.getfield 31, 3)) (by decide +kernel) (by decide +kernel) (by decide +kernel) (by decide) rfl (fun q => q (72, 10, 81) (by decide +kernel)) ?_
    refine Fr.ildn (by decide +kernel : zi 219 58 = some (.iload_n 1, 1)) rfl ?_
    obtain ⟨⟨g0, g1⟩, h⟩ := h
    refine Fr.iald (c := 80) (N := 7) (by decide +kernel : zi 219 59 = some (.iaload, 1)) (by decide +kernel) (by decide) g0 g1 ?_
    obtain ⟨⟨g0, g1⟩, h⟩ := h
    refine Fr.iast (c := 100) (N := 6) (by decide +kernel : zi 219 60 = some (.iastore, 1)) (by decide +kernel) (by decide) g0 g1 ?_
    refine Fr.iinc (lv2 := [some (rf 73), some (it (zw (v1 + 1)))]) (by decide +kernel : zi 219 61 = some (.iinc 1 1, 3)) (Nat.le_of_ble_eq_true rfl) rfl rfl ?_
    refine Fr.goto (q := 31) (by decide +kernel : zi 219 64 = some (.goto (-33), 3)) (by decide +kernel) ?_
    exact h
theorem f219_69 {xs : Nat → Int} {L : Nat} {d : Nat} {v1 : Int} {s : Pl} {P : Int → Pl → Prop} (h : ((16 ≤ v1 → P (s 72 3) s) ∧ (¬ (16 ≤ v1) → (0 ≤ v1 ∧ v1 < 16) ∧ (0 ≤ v1 ∧ v1 < 16) ∧ Fr xs L T0 106 d 219 69 [some (rf 73), some (it (zw (v1 + 1)))] [] (zup s 101 v1 (s 73 v1)) (qi P)))) : Fr xs L T0 106 d 219 69 [some (rf 73), some (it v1)] [] s (qi P) := by
  refine Fr.ildn (by decide +kernel : zi 219 69 = some (.iload_n 1, 1)) rfl ?_
  refine Fr.bipush (by decide +kernel : zi 219 70 = some (.bipush 16, 2)) (by decide) ?_
  refine Fr.if2 (q := 93) (by decide +kernel : zi 219 72 = some (.if_icmp .ge 21, 3)) (by decide +kernel) (fun g9 => ?_) (fun g9 => ?_)
  · have h := h.1 g9
    refine Fr.aldn (c := 73) (by decide +kernel : zi 219 93 = some (.aload_n 0, 1)) rfl ⟨by omega, by omega⟩ ?_
    refine Fr.gI (c := 72) (ci := 8) (k := 3) (t := 0) 3 (by decide +kernel : zi 219 94 = some (.getfield 122, 3)) (by decide +kernel) (by decide +kernel) (by decide +kernel) (by decide) rfl ?_
    exact Fr.retI (by decide +kernel : zi 219 97 = some (.ireturn, 1)) (by decide +kernel) h
  · have h := h.2 g9
    refine Fr.aldn (c := 73) (by decide +kernel : zi 219 75 = some (.aload_n 0, 1)) rfl ⟨by omega, by omega⟩ ?_
    refine Fr.gR (c := 72) (c2 := 102) (ci := 8) (k := 51) 51 (by decide +kernel : zi 219 76 = some (.getfield 100, 3)) (by decide +kernel) (by decide +kernel) (by decide +kernel) (by decide) rfl (fun q => q (72, 51, 102) (by decide +kernel)) ?_
    refine Fr.ildn (by decide +kernel : zi 219 79 = some (.iload_n 1, 1)) rfl ?_
    refine Fr.aldn (c := 73) (by decide +kernel : zi 219 80 = some (.aload_n 0, 1)) rfl ⟨by omega, by omega⟩ ?_
    refine Fr.gR (c := 72) (c2 := 74) (ci := 8) (k := 1) 1 (by decide +kernel : zi 219 81 = some (.getfield 7, 3)) (by decide +kernel) (by decide +kernel) (by decide +kernel) (by decide) rfl (fun q => q (72, 1, 74) (by decide +kernel)) ?_
    refine Fr.ildn (by decide +kernel : zi 219 84 = some (.iload_n 1, 1)) rfl ?_
    obtain ⟨⟨g0, g1⟩, h⟩ := h
    refine Fr.iald (c := 73) (N := 16) (by decide +kernel : zi 219 85 = some (.iaload, 1)) (by decide +kernel) (by decide) g0 g1 ?_
    obtain ⟨⟨g0, g1⟩, h⟩ := h
    refine Fr.iast (c := 101) (N := 16) (by decide +kernel : zi 219 86 = some (.iastore, 1)) (by decide +kernel) (by decide) g0 g1 ?_
    refine Fr.iinc (lv2 := [some (rf 73), some (it (zw (v1 + 1)))]) (by decide +kernel : zi 219 87 = some (.iinc 1 1, 3)) (Nat.le_of_ble_eq_true rfl) rfl rfl ?_
    refine Fr.goto (q := 69) (by decide +kernel : zi 219 90 = some (.goto (-21), 3)) (by decide +kernel) ?_
    exact h
-- 220 X8_back
theorem f220_0 {xs : Nat → Int} {L : Nat} {d : Nat}  {s : Pl} {P : Int → Pl → Prop} (h : ((¬ s 72 45 = 0 → Fr xs L T0 106 d 220 36 [some (rf 73), some (it 0)] [] (zup (zup (zup s 72 3 (s 72 46)) 72 2 ((zup s 72 3 (s 72 46)) 72 47)) 72 14 ((zup (zup s 72 3 (s 72 46)) 72 2 ((zup s 72 3 (s 72 46)) 72 47)) 72 48)) (qi P)) ∧ (¬ (¬ s 72 45 = 0) → P (-3) s))) : Fr xs L T0 106 d 220 0 [some (rf 73), none] [] s (qi P) := by
  refine Fr.aldn (c := 73) (by decide +kernel : zi 220 0 = some (.aload_n 0, 1)) rfl ⟨by omega, by omega⟩ ?_
  refine Fr.gI (c := 72) (ci := 8) (k := 45) (t := 2) 45 (by decide +kernel : zi 220 1 = some (.getfield 351, 3)) (by decide +kernel) (by decide +kernel) (by decide +kernel) (by decide) rfl ?_
  refine Fr.if0 (q := 10) (by decide +kernel : zi 220 4 = some (.ifCond .ne 6, 3)) (by decide +kernel) (fun g9 => ?_) (fun g9 => ?_)
  · have h := h.1 g9
    refine Fr.aldn (c := 73) (by decide +kernel : zi 220 10 = some (.aload_n 0, 1)) rfl ⟨by omega, by omega⟩ ?_
    refine Fr.aldn (c := 73) (by decide +kernel : zi 220 11 = some (.aload_n 0, 1)) rfl ⟨by omega, by omega⟩ ?_
    refine Fr.gI (c := 72) (ci := 8) (k := 46) (t := 0) 46 (by decide +kernel : zi 220 12 = some (.getfield 355, 3)) (by decide +kernel) (by decide +kernel) (by decide +kernel) (by decide) rfl ?_
    refine Fr.pI (c := 72) (ci := 8) (k := 3) 3 (by decide +kernel : zi 220 15 = some (.putfield 122, 3)) (by decide +kernel) (by decide +kernel) (by decide +kernel) (by decide) rfl ?_
    refine Fr.aldn (c := 73) (by decide +kernel : zi 220 18 = some (.aload_n 0, 1)) rfl ⟨by omega, by omega⟩ ?_
    refine Fr.aldn (c := 73) (by decide +kernel : zi 220 19 = some (.aload_n 0, 1)) rfl ⟨by omega, by omega⟩ ?_
    refine Fr.gI (c := 72) (ci := 8) (k := 47) (t := 0) 47 (by decide +kernel : zi 220 20 = some (.getfield 358, 3)) (by decide +kernel) (by decide +kernel) (by decide +kernel) (by decide) rfl ?_
    refine Fr.pI (c := 72) (ci := 8) (k := 2) 2 (by decide +kernel : zi 220 23 = some (.putfield 129, 3)) (by decide +kernel) (by decide +kernel) (by decide +kernel) (by decide) rfl ?_
    refine Fr.aldn (c := 73) (by decide +kernel : zi 220 26 = some (.aload_n 0, 1)) rfl ⟨by omega, by omega⟩ ?_
    refine Fr.aldn (c := 73) (by decide +kernel : zi 220 27 = some (.aload_n 0, 1)) rfl ⟨by omega, by omega⟩ ?_
    refine Fr.gI (c := 72) (ci := 8) (k := 48) (t := 0) 48 (by decide +kernel : zi 220 28 = some (.getfield 361, 3)) (by decide +kernel) (by decide +kernel) (by decide +kernel) (by decide) rfl ?_
    refine Fr.pI (c := 72) (ci := 8) (k := 14) 14 (by decide +kernel : zi 220 31 = some (.putfield 139, 3)) (by decide +kernel) (by decide +kernel) (by decide +kernel) (by decide) rfl ?_
    refine Fr.iconst (by decide +kernel : zi 220 34 = some (.iconst 0, 1)) (by decide) ?_
    refine Fr.istn (lv2 := [some (rf 73), some (it 0)]) (by decide +kernel : zi 220 35 = some (.istore_n 1, 1)) (Nat.le_of_ble_eq_true rfl) rfl ?_
    exact h
  · have h := h.2 g9
    refine Fr.bipush (by decide +kernel : zi 220 7 = some (.bipush (-3), 2)) (by decide) ?_
    exact Fr.retI (by decide +kernel : zi 220 9 = some (.ireturn, 1)) (by decide +kernel) h
theorem e220 {xs : Nat → Int} {L : Nat} {d : Nat}  {s : Pl} {Q : Option AV → Pl → Prop} (hd : 1 ≤ d) (k : Fr xs L T0 106 (d - 1) 220 0 [some (rf 73), none] [] s Q) : Ev xs L T0 106 d 220 [rf 73] s Q := Ev.of (by decide) _ rfl hd k
theorem f220_36 {xs : Nat → Int} {L : Nat} {d : Nat} {v1 : Int} {s : Pl} {P : Int → Pl → Prop} (h : ((s 72 3 ≤ v1 → Fr xs L T0 106 d 220 76 [some (rf 73), some (it 0)] [] s (qi P)) ∧ (¬ (s 72 3 ≤ v1) → (0 ≤ v1 ∧ v1 < 6) ∧ (0 ≤ v1 ∧ v1 < 7) ∧ (0 ≤ v1 ∧ v1 < 6) ∧ (0 ≤ v1 ∧ v1 < 7) ∧ Fr xs L T0 106 d 220 36 [some (rf 73), some (it (zw (v1 + 1)))] [] (zup (zup s 75 v1 (s 99 v1)) 80 v1 ((zup s 75 v1 (s 99 v1)) 100 v1)) (qi P)))) : Fr xs L T0 106 d 220 36 [some (rf 73), some (it v1)] [] s (qi P) := by
  refine Fr.ildn (by decide +kernel : zi 220 36 = some (.iload_n 1, 1)) rfl ?_
  refine Fr.aldn (c := 73) (by decide +kernel : zi 220 37 = some (.aload_n 0, 1)) rfl ⟨by omega, by omega⟩ ?_
  refine Fr.gI (c := 72) (ci := 8) (k := 3) (t := 0) 3 (by decide +kernel : zi 220 38 = some (.getfield 122, 3)) (by decide +kernel) (by decide +kernel) (by decide +kernel) (by decide) rfl ?_
  refine Fr.if2 (q := 74) (by decide +kernel : zi 220 41 = some (.if_icmp .ge 33, 3)) (by decide +kernel) (fun g9 => ?_) (fun g9 => ?_)
  · have h := h.1 g9
    refine Fr.iconst (by decide +kernel : zi 220 74 = some (.iconst 0, 1)) (by decide) ?_
    refine Fr.istn (lv2 := [some (rf 73), some (it 0)]) (by decide +kernel : zi 220 75 = some (.istore_n 1, 1)) (Nat.le_of_ble_eq_true rfl) rfl ?_
    exact h
  · have h := h.2 g9
    refine Fr.aldn (c := 73) (by decide +kernel : zi 220 44 = some (.aload_n 0, 1)) rfl ⟨by omega, by omega⟩ ?_
    refine Fr.gR (c := 72) (c2 := 76) (ci := 8) (k := 5) 5 (by decide +kernel : zi 220 45 = some (.getfield 16, 3)) (by decide +kernel) (by decide +kernel) (by decide +kernel) (by decide) rfl (fun q => q (72, 5, 76) (by decide +kernel)) ?_
    refine Fr.ildn (by decide +kernel : zi 220 48 = some (.iload_n 1, 1)) rfl ?_
    refine Fr.aldn (c := 73) (by decide +kernel : zi 220 49 = some (.aload_n 0, 1)) rfl ⟨by omega, by omega⟩ ?_
    refine Fr.gR (c := 72) (c2 := 100) (ci := 8) (k := 49) 49 (by decide +kernel : zi 220 50 = some (.getfield 94, 3)) (by decide +kernel) (by decide +kernel) (by decide +kernel) (by decide) rfl (fun q => q (72, 49, 100) (by decide +kernel)) ?_
    refine Fr.ildn (by decide +kernel : zi 220 53 = some (.iload_n 1, 1)) rfl ?_
    obtain ⟨⟨g0, g1⟩, h⟩ := h
    refine Fr.iald (c := 99) (N := 6) (by decide +kernel : zi 220 54 = some (.iaload, 1)) (by decide +kernel) (by decide) g0 g1 ?_
    obtain ⟨⟨g0, g1⟩, h⟩ := h
    refine Fr.iast (c := 75) (N := 7) (by decide +kernel : zi 220 55 = some (.iastore, 1)) (by decide +kernel) (by decide) g0 g1 ?_
    refine Fr.aldn (c := 73) (by decide +kernel : zi 220 56 = some (.aload_n 0, 1)) rfl ⟨by omega, by omega⟩ ?_
    refine Fr.gR (c := 72) (c2 := 81) (ci := 8) (k := 10) 10 (by decide +kernel : zi 220 57 = some (.getfield 31, 3)) (by decide +kernel) (by decide +kernel) (by decide +kernel) (by decide) rfl (fun q => q (72, 10, 81) (by decide +kernel)) ?_
    refine Fr.ildn (by decide +kernel : zi 220 60 = some (.iload_n 1, 1)) rfl ?_
    refine Fr.aldn (c := 73) (by decide +kernel : zi 220 61 = some (.aload_n 0, 1)) rfl ⟨by omega, by omega⟩ ?_
    refine Fr.gR (c := 72) (c2 := 101) (ci := 8) (k := 50) 50 (by decide +kernel : zi 220 62 = some (.getfield 97, 3)) (by decide +kernel) (by decide +kernel) (by decide +kernel) (by decide) rfl (fun q => q (72, 50, 101) (by decide +kernel)) ?_
    refine Fr.ildn (by decide +kernel : zi 220 65 = some (.iload_n 1, 1)) rfl ?_
    obtain ⟨⟨g0, g1⟩, h⟩ := h
    refine Fr.iald (c := 100) (N := 6) (by decide +kernel : zi 220 66 = some (.iaload, 1)) (by decide +kernel) (by decide) g0 g1 ?_
    obtain ⟨⟨g0, g1⟩, h⟩ := h
    refine Fr.iast (c := 80) (N := 7) (by decide +kernel : zi 220 67 = some (.iastore, 1)) (by decide +kernel) (by decide) g0 g1 ?_
    refine Fr.iinc (lv2 := [some (rf 73), some (it (zw (v1 + 1)))]) (by decide +kernel : zi 220 68 = some (.iinc 1 1, 3)) (Nat.le_of_ble_eq_true rfl) rfl rfl ?_
    refine Fr.goto (q := 36) (by decide +kernel : zi 220 71 = some (.goto (-35), 3)) (by decide +kernel) ?_
    exact h
theorem f220_76 {xs : Nat → Int} {L : Nat} {d : Nat} {v1 : Int} {s : Pl} {P : Int → Pl → Prop} (h : ((16 ≤ v1 → P (s 72 3) s) ∧ (¬ (16 ≤ v1) → (0 ≤ v1 ∧ v1 < 16) ∧ (0 ≤ v1 ∧ v1 < 16) ∧ Fr xs L T0 106 d 220 76 [some (rf 73), some (it (zw (v1 + 1)))] [] (zup s 73 v1 (s 101 v1)) (qi P)))) : Fr xs L T0 106 d 220 76 [some (rf 73), some (it v1)] [] s (qi P) := by
  refine Fr.ildn (by decide +kernel : zi 220 76 = some (.iload_n 1, 1)) rfl ?_
  refine Fr.bipush (by decide +kernel : zi 220 77 = some (.bipush 16, 2)) (by decide) ?_
  refine Fr.if2 (q := 100) (by decide +kernel : zi 220 79 = some (.if_icmp .ge 21, 3)) (by decide +kernel) (fun g9 => ?_) (fun g9 => ?_)
  · have h := h.1 g9
    refine Fr.aldn (c := 73) (by decide +kernel : zi 220 100 = some (.aload_n 0, 1)) rfl ⟨by omega, by omega⟩ ?_
    refine Fr.gI (c := 72) (ci := 8) (k := 3) (t := 0) 3 (by decide +kernel : zi 220 101 = some (.getfield 122, 3)) (by decide +kernel) (by decide +kernel) (by decide +kernel) (by decide) rfl ?_
    exact Fr.retI (by decide +kernel : zi 220 104 = some (.ireturn, 1)) (by decide +kernel) h
  · have h := h.2 g9
    refine Fr.aldn (c := 73) (by decide +kernel : zi 220 82 = some (.aload_n 0, 1)) rfl ⟨by omega, by omega⟩ ?_
    refine Fr.gR (c := 72) (c2 := 74) (ci := 8) (k := 1) 1 (by decide +kernel : zi 220 83 = some (.getfield 7, 3)) (by decide +kernel) (by decide +kernel) (by decide +kernel) (by decide) rfl (fun q => q (72, 1, 74) (by decide +kernel)) ?_
    refine Fr.ildn (by decide +kernel : zi 220 86 = some (.iload_n 1, 1)) rfl ?_
    refine Fr.aldn (c := 73) (by decide +kernel : zi 220 87 = some (.aload_n 0, 1)) rfl ⟨by omega, by omega⟩ ?_
    refine Fr.gR (c := 72) (c2 := 102) (ci := 8) (k := 51) 51 (by decide +kernel : zi 220 88 = some (.getfield 100, 3)) (by decide +kernel) (by decide +kernel) (by decide +kernel) (by decide) rfl (fun q => q (72, 51, 102) (by decide +kernel)) ?_
    refine Fr.ildn (by decide +kernel : zi 220 91 = some (.iload_n 1, 1)) rfl ?_
    obtain ⟨⟨g0, g1⟩, h⟩ := h
    refine Fr.iald (c := 101) (N := 16) (by decide +kernel : zi 220 92 = some (.iaload, 1)) (by decide +kernel) (by decide) g0 g1 ?_
    obtain ⟨⟨g0, g1⟩, h⟩ := h
    refine Fr.iast (c := 73) (N := 16) (by decide +kernel : zi 220 93 = some (.iastore, 1)) (by decide +kernel) (by decide) g0 g1 ?_
    refine Fr.iinc (lv2 := [some (rf 73), some (it (zw (v1 + 1)))]) (by decide +kernel : zi 220 94 = some (.iinc 1 1, 3)) (Nat.le_of_ble_eq_true rfl) rfl rfl ?_
    refine Fr.goto (q := 76) (by decide +kernel : zi 220 97 = some (.goto (-21), 3)) (by decide +kernel) ?_
    exact h
-- 221 X8_isSheet
theorem f221_0 {xs : Nat → Int} {L : Nat} {d : Nat} {v0 : Int} {s : Pl} {P : Int → Pl → Prop} (h : Ev xs L T0 106 d 132 [it v0, it 0, it 3] s (qi fun r2 s1 => ((r2 = 0 ∨ r2 = 1) ∧ P r2 s1))) : Fr xs L T0 106 d 221 0 [some (it v0)] [] s (qi P) := by
  refine Fr.ildn (by decide +kernel : zi 221 0 = some (.iload_n 0, 1)) rfl ?_
  refine Fr.iconst (by decide +kernel : zi 221 1 = some (.iconst 0, 1)) (by decide) ?_
  refine Fr.iconst (by decide +kernel : zi 221 2 = some (.iconst 3, 1)) (by decide) ?_
  refine Fr.callI (y2 := 132) (na := 3) (as := [it v0, it 0, it 3]) (rest := []) (by decide +kernel : zi 221 3 = some (.invokestatic 118, 3)) rfl (by decide +kernel) (by decide +kernel) rfl rfl (zok_S rfl (by decide) (by decide +kernel) rfl (Nat.le_of_ble_eq_true rfl)) h (fun r2 s1 h => ?_)
  exact Fr.retZ (by decide +kernel : zi 221 6 = some (.ireturn, 1)) (by decide +kernel) h.1 h.2
theorem e221 {xs : Nat → Int} {L : Nat} {d : Nat} {v0 : Int} {s : Pl} {Q : Option AV → Pl → Prop} (hd : 1 ≤ d) (k : Fr xs L T0 106 (d - 1) 221 0 [some (it v0)] [] s Q) : Ev xs L T0 106 d 221 [it v0] s Q := Ev.of (by decide) _ rfl hd k
-- 222 X8_sheet
theorem f222_0 {xs : Nat → Int} {L : Nat} {d : Nat} {v1 : Int} {v2 : Int} {v3 : Int} {s : Pl} {P : Int → Pl → Prop} (h : Ev xs L T0 106 d 221 [it v1] s (qi fun r2 s1 => ((r2 = 0 → P (-2) s1) ∧ (¬ (r2 = 0) → Ev xs L T0 106 d 132 [it v2, it (-1), it 2] s1 (qi fun r4 s3 => ((¬ r4 = 0 → ((¬ v2 = (-1) → ((v3 ≤ 40 → ((0 ≤ v3 → (0 ≤ v1 ∧ v1 < 4) ∧ (0 ≤ v1 ∧ v1 < 4) ∧ Fr xs L T0 106 d 222 66 [some (rf 73), some (it v1), some (it v2), some (it v3), some (it 0)] [] (zup (zup s3 102 v1 v2) 103 v1 v3) (qi P)) ∧ (¬ (0 ≤ v3) → P (-14) s3))) ∧ (¬ (v3 ≤ 40) → P (-2) s3))) ∧ (¬ (¬ v2 = (-1)) → (0 ≤ v1 ∧ v1 < 4) ∧ P 1 (zup s3 102 v1 (-1))))) ∧ (¬ (¬ r4 = 0) → P (-2) s3))))))) : Fr xs L T0 106 d 222 0 [some (rf 73), some (it v1), some (it v2), some (it v3), none] [] s (qi P) := by
  refine Fr.ildn (by decide +kernel : zi 222 0 = some (.iload_n 1, 1)) rfl ?_
  refine Fr.callI (y2 := 221) (na := 1) (as := [it v1]) (rest := []) (by decide +kernel : zi 222 1 = some (.invokestatic 364, 3)) rfl (by decide +kernel) (by decide +kernel) rfl rfl (zok_S rfl (by decide) (by decide +kernel) rfl (Nat.le_of_ble_eq_true rfl)) h (fun r2 s1 h => ?_)
  refine Fr.if0 (q := 16) (by decide +kernel : zi 222 4 = some (.ifCond .eq 12, 3)) (by decide +kernel) (fun g9 => ?_) (fun g9 => ?_)
  · have h := h.1 g9
    refine Fr.bipush (by decide +kernel : zi 222 16 = some (.bipush (-2), 2)) (by decide) ?_
    exact Fr.retI (by decide +kernel : zi 222 18 = some (.ireturn, 1)) (by decide +kernel) h
  · have h := h.2 g9
    refine Fr.ildn (by decide +kernel : zi 222 7 = some (.iload_n 2, 1)) rfl ?_
    refine Fr.iconst (by decide +kernel : zi 222 8 = some (.iconst (-1), 1)) (by decide) ?_
    refine Fr.iconst (by decide +kernel : zi 222 9 = some (.iconst 2, 1)) (by decide) ?_
    refine Fr.callI (y2 := 132) (na := 3) (as := [it v2, it (-1), it 2]) (rest := []) (by decide +kernel : zi 222 10 = some (.invokestatic 118, 3)) rfl (by decide +kernel) (by decide +kernel) rfl rfl (zok_S rfl (by decide) (by decide +kernel) rfl (Nat.le_of_ble_eq_true rfl)) h (fun r4 s3 h => ?_)
    refine Fr.if0 (q := 19) (by decide +kernel : zi 222 13 = some (.ifCond .ne 6, 3)) (by decide +kernel) (fun g9 => ?_) (fun g9 => ?_)
    · have h := h.1 g9
      refine Fr.ildn (by decide +kernel : zi 222 19 = some (.iload_n 2, 1)) rfl ?_
      refine Fr.iconst (by decide +kernel : zi 222 20 = some (.iconst (-1), 1)) (by decide) ?_
      refine Fr.if2 (q := 33) (by decide +kernel : zi 222 21 = some (.if_icmp .ne 12, 3)) (by decide +kernel) (fun g9 => ?_) (fun g9 => ?_)
      · have h := h.1 g9
        refine Fr.ildn (by decide +kernel : zi 222 33 = some (.iload_n 3, 1)) rfl ?_
        refine Fr.bipush (by decide +kernel : zi 222 34 = some (.bipush 40, 2)) (by decide) ?_
        refine Fr.if2 (q := 42) (by decide +kernel : zi 222 36 = some (.if_icmp .le 6, 3)) (by decide +kernel) (fun g9 => ?_) (fun g9 => ?_)
        · have h := h.1 g9
          refine Fr.ildn (by decide +kernel : zi 222 42 = some (.iload_n 3, 1)) rfl ?_
          refine Fr.if0 (q := 49) (by decide +kernel : zi 222 43 = some (.ifCond .ge 6, 3)) (by decide +kernel) (fun g9 => ?_) (fun g9 => ?_)
          · have h := h.1 g9
            refine Fr.aldn (c := 73) (by decide +kernel : zi 222 49 = some (.aload_n 0, 1)) rfl ⟨by omega, by omega⟩ ?_
            refine Fr.gR (c := 72) (c2 := 103) (ci := 8) (k := 52) 52 (by decide +kernel : zi 222 50 = some (.getfield 103, 3)) (by decide +kernel) (by decide +kernel) (by decide +kernel) (by decide) rfl (fun q => q (72, 52, 103) (by decide +kernel)) ?_
            refine Fr.ildn (by decide +kernel : zi 222 53 = some (.iload_n 1, 1)) rfl ?_
            refine Fr.ildn (by decide +kernel : zi 222 54 = some (.iload_n 2, 1)) rfl ?_
            obtain ⟨⟨g0, g1⟩, h⟩ := h
            refine Fr.iast (c := 102) (N := 4) (by decide +kernel : zi 222 55 = some (.iastore, 1)) (by decide +kernel) (by decide) g0 g1 ?_
            refine Fr.aldn (c := 73) (by decide +kernel : zi 222 56 = some (.aload_n 0, 1)) rfl ⟨by omega, by omega⟩ ?_
            refine Fr.gR (c := 72) (c2 := 104) (ci := 8) (k := 53) 53 (by decide +kernel : zi 222 57 = some (.getfield 106, 3)) (by decide +kernel) (by decide +kernel) (by decide +kernel) (by decide) rfl (fun q => q (72, 53, 104) (by decide +kernel)) ?_
            refine Fr.ildn (by decide +kernel : zi 222 60 = some (.iload_n 1, 1)) rfl ?_
            refine Fr.ildn (by decide +kernel : zi 222 61 = some (.iload_n 3, 1)) rfl ?_
            obtain ⟨⟨g0, g1⟩, h⟩ := h
            refine Fr.iast (c := 103) (N := 4) (by decide +kernel : zi 222 62 = some (.iastore, 1)) (by decide +kernel) (by decide) g0 g1 ?_
            refine Fr.iconst (by decide +kernel : zi 222 63 = some (.iconst 0, 1)) (by decide) ?_
            refine Fr.ist (lv2 := [some (rf 73), some (it v1), some (it v2), some (it v3), some (it 0)]) (by decide +kernel : zi 222 64 = some (.istore 4, 2)) (Nat.le_of_ble_eq_true rfl) rfl ?_
            exact h
          · have h := h.2 g9
            refine Fr.bipush (by decide +kernel : zi 222 46 = some (.bipush (-14), 2)) (by decide) ?_
            exact Fr.retI (by decide +kernel : zi 222 48 = some (.ireturn, 1)) (by decide +kernel) h
        · have h := h.2 g9
          refine Fr.bipush (by decide +kernel : zi 222 39 = some (.bipush (-2), 2)) (by decide) ?_
          exact Fr.retI (by decide +kernel : zi 222 41 = some (.ireturn, 1)) (by decide +kernel) h
      · have h := h.2 g9
        refine Fr.aldn (c := 73) (by decide +kernel : zi 222 24 = some (.aload_n 0, 1)) rfl ⟨by omega, by omega⟩ ?_
        refine Fr.gR (c := 72) (c2 := 103) (ci := 8) (k := 52) 52 (by decide +kernel : zi 222 25 = some (.getfield 103, 3)) (by decide +kernel) (by decide +kernel) (by decide +kernel) (by decide) rfl (fun q => q (72, 52, 103) (by decide +kernel)) ?_
        refine Fr.ildn (by decide +kernel : zi 222 28 = some (.iload_n 1, 1)) rfl ?_
        refine Fr.iconst (by decide +kernel : zi 222 29 = some (.iconst (-1), 1)) (by decide) ?_
        obtain ⟨⟨g0, g1⟩, h⟩ := h
        refine Fr.iast (c := 102) (N := 4) (by decide +kernel : zi 222 30 = some (.iastore, 1)) (by decide +kernel) (by decide) g0 g1 ?_
        refine Fr.iconst (by decide +kernel : zi 222 31 = some (.iconst 1, 1)) (by decide) ?_
        exact Fr.retI (by decide +kernel : zi 222 32 = some (.ireturn, 1)) (by decide +kernel) h
    · have h := h.2 g9
      refine Fr.bipush (by decide +kernel : zi 222 16 = some (.bipush (-2), 2)) (by decide) ?_
      exact Fr.retI (by decide +kernel : zi 222 18 = some (.ireturn, 1)) (by decide +kernel) h
theorem e222 {xs : Nat → Int} {L : Nat} {d : Nat} {v1 : Int} {v2 : Int} {v3 : Int} {s : Pl} {Q : Option AV → Pl → Prop} (hd : 1 ≤ d) (k : Fr xs L T0 106 (d - 1) 222 0 [some (rf 73), some (it v1), some (it v2), some (it v3), none] [] s Q) : Ev xs L T0 106 d 222 [rf 73, it v1, it v2, it v3] s Q := Ev.of (by decide) _ rfl hd k
theorem f222_66 {xs : Nat → Int} {L : Nat} {d : Nat} {v1 : Int} {v2 : Int} {v3 : Int} {v4 : Int} {s : Pl} {P : Int → Pl → Prop} (h : ((v3 ≤ v4 → P 1 s) ∧ (¬ (v3 ≤ v4) → (0 ≤ zw ((zw (40 * v1)) + v4) ∧ zw ((zw (40 * v1)) + v4) < 160) ∧ Fr xs L T0 106 d 222 66 [some (rf 73), some (it v1), some (it v2), some (it v3), some (it (zw (v4 + 1)))] [] (zup s 104 (zw ((zw (40 * v1)) + v4)) 0) (qi P)))) : Fr xs L T0 106 d 222 66 [some (rf 73), some (it v1), some (it v2), some (it v3), some (it v4)] [] s (qi P) := by
  refine Fr.ild (by decide +kernel : zi 222 66 = some (.iload 4, 2)) rfl ?_
  refine Fr.ildn (by decide +kernel : zi 222 68 = some (.iload_n 3, 1)) rfl ?_
  refine Fr.if2 (q := 91) (by decide +kernel : zi 222 69 = some (.if_icmp .ge 22, 3)) (by decide +kernel) (fun g9 => ?_) (fun g9 => ?_)
  · have h := h.1 g9
    refine Fr.iconst (by decide +kernel : zi 222 91 = some (.iconst 1, 1)) (by decide) ?_
    exact Fr.retI (by decide +kernel : zi 222 92 = some (.ireturn, 1)) (by decide +kernel) h
  · have h := h.2 g9
    refine Fr.aldn (c := 73) (by decide +kernel : zi 222 72 = some (.aload_n 0, 1)) rfl ⟨by omega, by omega⟩ ?_
    refine Fr.gR (c := 72) (c2 := 105) (ci := 8) (k := 54) 54 (by decide +kernel : zi 222 73 = some (.getfield 109, 3)) (by decide +kernel) (by decide +kernel) (by decide +kernel) (by decide) rfl (fun q => q (72, 54, 105) (by decide +kernel)) ?_
    refine Fr.bipush (by decide +kernel : zi 222 76 = some (.bipush 40, 2)) (by decide) ?_
    refine Fr.ildn (by decide +kernel : zi 222 78 = some (.iload_n 1, 1)) rfl ?_
    refine Fr.imul (by decide +kernel : zi 222 79 = some (.imul, 1)) ?_
    refine Fr.ild (by decide +kernel : zi 222 80 = some (.iload 4, 2)) rfl ?_
    refine Fr.iadd (by decide +kernel : zi 222 82 = some (.iadd, 1)) ?_
    refine Fr.iconst (by decide +kernel : zi 222 83 = some (.iconst 0, 1)) (by decide) ?_
    obtain ⟨⟨g0, g1⟩, h⟩ := h
    refine Fr.iast (c := 104) (N := 160) (by decide +kernel : zi 222 84 = some (.iastore, 1)) (by decide +kernel) (by decide) g0 g1 ?_
    refine Fr.iinc (lv2 := [some (rf 73), some (it v1), some (it v2), some (it v3), some (it (zw (v4 + 1)))]) (by decide +kernel : zi 222 85 = some (.iinc 4 1, 3)) (Nat.le_of_ble_eq_true rfl) rfl rfl ?_
    refine Fr.goto (q := 66) (by decide +kernel : zi 222 88 = some (.goto (-22), 3)) (by decide +kernel) ?_
    exact h
-- 223 X8_cell
theorem f223_0 {xs : Nat → Int} {L : Nat} {d : Nat} {v1 : Int} {v2 : Int} {v3 : Int} {s : Pl} {P : Int → Pl → Prop} (h : Ev xs L T0 106 d 221 [it v1] s (qi fun r2 s1 => ((¬ r2 = 0 → (0 ≤ v1 ∧ v1 < 4) ∧ ((0 ≤ s1 102 v1 → (0 ≤ v1 ∧ v1 < 4) ∧ Ev xs L T0 106 d 132 [it v2, it 0, it (zw ((s1 103 v1) - 1))] s1 (qi fun r4 s3 => ((¬ r4 = 0 → (0 ≤ v1 ∧ v1 < 4) ∧ ((¬ s3 102 v1 = 0 → (0 ≤ v1 ∧ v1 < 4) ∧ ((¬ s3 102 v1 = 1 → Fr xs L T0 106 d 223 81 [some (rf 73), some (it v1), some (it v2), some (it v3)] [it v3, it (zw ((zw (40 * v1)) + v2)), rf 105] s3 (qi P)) ∧ (¬ (¬ s3 102 v1 = 1) → Fr xs L T0 106 d 223 81 [some (rf 73), some (it v1), some (it v2), some (it v3)] [it (zs16 v3), it (zw ((zw (40 * v1)) + v2)), rf 105] s3 (qi P)))) ∧ (¬ (¬ s3 102 v1 = 0) → Fr xs L T0 106 d 223 81 [some (rf 73), some (it v1), some (it v2), some (it v3)] [it (zb8 v3), it (zw ((zw (40 * v1)) + v2)), rf 105] s3 (qi P)))) ∧ (¬ (¬ r4 = 0) → P (-12) s3)))) ∧ (¬ (0 ≤ s1 102 v1) → P (-11) s1))) ∧ (¬ (¬ r2 = 0) → P (-2) s1)))) : Fr xs L T0 106 d 223 0 [some (rf 73), some (it v1), some (it v2), some (it v3)] [] s (qi P) := by
  refine Fr.ildn (by decide +kernel : zi 223 0 = some (.iload_n 1, 1)) rfl ?_
  refine Fr.callI (y2 := 221) (na := 1) (as := [it v1]) (rest := []) (by decide +kernel : zi 223 1 = some (.invokestatic 364, 3)) rfl (by decide +kernel) (by decide +kernel) rfl rfl (zok_S rfl (by decide) (by decide +kernel) rfl (Nat.le_of_ble_eq_true rfl)) h (fun r2 s1 h => ?_)
  refine Fr.if0 (q := 10) (by decide +kernel : zi 223 4 = some (.ifCond .ne 6, 3)) (by decide +kernel) (fun g9 => ?_) (fun g9 => ?_)
  · have h := h.1 g9
    refine Fr.aldn (c := 73) (by decide +kernel : zi 223 10 = some (.aload_n 0, 1)) rfl ⟨by omega, by omega⟩ ?_
    refine Fr.gR (c := 72) (c2 := 103) (ci := 8) (k := 52) 52 (by decide +kernel : zi 223 11 = some (.getfield 103, 3)) (by decide +kernel) (by decide +kernel) (by decide +kernel) (by decide) rfl (fun q => q (72, 52, 103) (by decide +kernel)) ?_
    refine Fr.ildn (by decide +kernel : zi 223 14 = some (.iload_n 1, 1)) rfl ?_
    obtain ⟨⟨g0, g1⟩, h⟩ := h
    refine Fr.iald (c := 102) (N := 4) (by decide +kernel : zi 223 15 = some (.iaload, 1)) (by decide +kernel) (by decide) g0 g1 ?_
    refine Fr.if0 (q := 22) (by decide +kernel : zi 223 16 = some (.ifCond .ge 6, 3)) (by decide +kernel) (fun g9 => ?_) (fun g9 => ?_)
    · have h := h.1 g9
      refine Fr.ildn (by decide +kernel : zi 223 22 = some (.iload_n 2, 1)) rfl ?_
      refine Fr.iconst (by decide +kernel : zi 223 23 = some (.iconst 0, 1)) (by decide) ?_
      refine Fr.aldn (c := 73) (by decide +kernel : zi 223 24 = some (.aload_n 0, 1)) rfl ⟨by omega, by omega⟩ ?_
      refine Fr.gR (c := 72) (c2 := 104) (ci := 8) (k := 53) 53 (by decide +kernel : zi 223 25 = some (.getfield 106, 3)) (by decide +kernel) (by decide +kernel) (by decide +kernel) (by decide) rfl (fun q => q (72, 53, 104) (by decide +kernel)) ?_
      refine Fr.ildn (by decide +kernel : zi 223 28 = some (.iload_n 1, 1)) rfl ?_
      obtain ⟨⟨g0, g1⟩, h⟩ := h
      refine Fr.iald (c := 103) (N := 4) (by decide +kernel : zi 223 29 = some (.iaload, 1)) (by decide +kernel) (by decide) g0 g1 ?_
      refine Fr.iconst (by decide +kernel : zi 223 30 = some (.iconst 1, 1)) (by decide) ?_
      refine Fr.isub (by decide +kernel : zi 223 31 = some (.isub, 1)) ?_
      refine Fr.callI (y2 := 132) (na := 3) (as := [it v2, it 0, it (zw ((s1 103 v1) - 1))]) (rest := []) (by decide +kernel : zi 223 32 = some (.invokestatic 118, 3)) rfl (by decide +kernel) (by decide +kernel) rfl rfl (zok_S rfl (by decide) (by decide +kernel) rfl (Nat.le_of_ble_eq_true rfl)) h (fun r4 s3 h => ?_)
      refine Fr.if0 (q := 41) (by decide +kernel : zi 223 35 = some (.ifCond .ne 6, 3)) (by decide +kernel) (fun g9 => ?_) (fun g9 => ?_)
      · have h := h.1 g9
        refine Fr.aldn (c := 73) (by decide +kernel : zi 223 41 = some (.aload_n 0, 1)) rfl ⟨by omega, by omega⟩ ?_
        refine Fr.gR (c := 72) (c2 := 105) (ci := 8) (k := 54) 54 (by decide +kernel : zi 223 42 = some (.getfield 109, 3)) (by decide +kernel) (by decide +kernel) (by decide +kernel) (by decide) rfl (fun q => q (72, 54, 105) (by decide +kernel)) ?_
        refine Fr.bipush (by decide +kernel : zi 223 45 = some (.bipush 40, 2)) (by decide) ?_
        refine Fr.ildn (by decide +kernel : zi 223 47 = some (.iload_n 1, 1)) rfl ?_
        refine Fr.imul (by decide +kernel : zi 223 48 = some (.imul, 1)) ?_
        refine Fr.ildn (by decide +kernel : zi 223 49 = some (.iload_n 2, 1)) rfl ?_
        refine Fr.iadd (by decide +kernel : zi 223 50 = some (.iadd, 1)) ?_
        refine Fr.aldn (c := 73) (by decide +kernel : zi 223 51 = some (.aload_n 0, 1)) rfl ⟨by omega, by omega⟩ ?_
        refine Fr.gR (c := 72) (c2 := 103) (ci := 8) (k := 52) 52 (by decide +kernel : zi 223 52 = some (.getfield 103, 3)) (by decide +kernel) (by decide +kernel) (by decide +kernel) (by decide) rfl (fun q => q (72, 52, 103) (by decide +kernel)) ?_
        refine Fr.ildn (by decide +kernel : zi 223 55 = some (.iload_n 1, 1)) rfl ?_
        obtain ⟨⟨g0, g1⟩, h⟩ := h
        refine Fr.iald (c := 102) (N := 4) (by decide +kernel : zi 223 56 = some (.iaload, 1)) (by decide +kernel) (by decide) g0 g1 ?_
        refine Fr.if0 (q := 65) (by decide +kernel : zi 223 57 = some (.ifCond .ne 8, 3)) (by decide +kernel) (fun g9 => ?_) (fun g9 => ?_)
        · have h := h.1 g9
          refine Fr.aldn (c := 73) (by decide +kernel : zi 223 65 = some (.aload_n 0, 1)) rfl ⟨by omega, by omega⟩ ?_
          refine Fr.gR (c := 72) (c2 := 103) (ci := 8) (k := 52) 52 (by decide +kernel : zi 223 66 = some (.getfield 103, 3)) (by decide +kernel) (by decide +kernel) (by decide +kernel) (by decide) rfl (fun q => q (72, 52, 103) (by decide +kernel)) ?_
          refine Fr.ildn (by decide +kernel : zi 223 69 = some (.iload_n 1, 1)) rfl ?_
          obtain ⟨⟨g0, g1⟩, h⟩ := h
          refine Fr.iald (c := 102) (N := 4) (by decide +kernel : zi 223 70 = some (.iaload, 1)) (by decide +kernel) (by decide) g0 g1 ?_
          refine Fr.iconst (by decide +kernel : zi 223 71 = some (.iconst 1, 1)) (by decide) ?_
          refine Fr.if2 (q := 80) (by decide +kernel : zi 223 72 = some (.if_icmp .ne 8, 3)) (by decide +kernel) (fun g9 => ?_) (fun g9 => ?_)
          · have h := h.1 g9
            refine Fr.ildn (by decide +kernel : zi 223 80 = some (.iload_n 3, 1)) rfl ?_
            exact h
          · have h := h.2 g9
            refine Fr.ildn (by decide +kernel : zi 223 75 = some (.iload_n 3, 1)) rfl ?_
            refine Fr.i2s (by decide +kernel : zi 223 76 = some (.i2s, 1)) ?_
            refine Fr.goto (q := 81) (by decide +kernel : zi 223 77 = some (.goto 4, 3)) (by decide +kernel) ?_
            exact h
        · have h := h.2 g9
          refine Fr.ildn (by decide +kernel : zi 223 60 = some (.iload_n 3, 1)) rfl ?_
          refine Fr.i2b (by decide +kernel : zi 223 61 = some (.i2b, 1)) ?_
          refine Fr.goto (q := 81) (by decide +kernel : zi 223 62 = some (.goto 19, 3)) (by decide +kernel) ?_
          exact h
      · have h := h.2 g9
        refine Fr.bipush (by decide +kernel : zi 223 38 = some (.bipush (-12), 2)) (by decide) ?_
        exact Fr.retI (by decide +kernel : zi 223 40 = some (.ireturn, 1)) (by decide +kernel) h
    · have h := h.2 g9
      refine Fr.bipush (by decide +kernel : zi 223 19 = some (.bipush (-11), 2)) (by decide) ?_
      exact Fr.retI (by decide +kernel : zi 223 21 = some (.ireturn, 1)) (by decide +kernel) h
  · have h := h.2 g9
    refine Fr.bipush (by decide +kernel : zi 223 7 = some (.bipush (-2), 2)) (by decide) ?_
    exact Fr.retI (by decide +kernel : zi 223 9 = some (.ireturn, 1)) (by decide +kernel) h
theorem e223 {xs : Nat → Int} {L : Nat} {d : Nat} {v1 : Int} {v2 : Int} {v3 : Int} {s : Pl} {Q : Option AV → Pl → Prop} (hd : 1 ≤ d) (k : Fr xs L T0 106 (d - 1) 223 0 [some (rf 73), some (it v1), some (it v2), some (it v3)] [] s Q) : Ev xs L T0 106 d 223 [rf 73, it v1, it v2, it v3] s Q := Ev.of (by decide) _ rfl hd k
theorem f223_81 {xs : Nat → Int} {L : Nat} {d : Nat} {v1 : Int} {v2 : Int} {v3 : Int} {vs0 : Int} {vs1 : Int} {s : Pl} {P : Int → Pl → Prop} (h : (0 ≤ vs1 ∧ vs1 < 160) ∧ P 1 (zup s 104 vs1 vs0)) : Fr xs L T0 106 d 223 81 [some (rf 73), some (it v1), some (it v2), some (it v3)] [it vs0, it vs1, rf 105] s (qi P) := by
  obtain ⟨⟨g0, g1⟩, h⟩ := h
  refine Fr.iast (c := 104) (N := 160) (by decide +kernel : zi 223 81 = some (.iastore, 1)) (by decide +kernel) (by decide) g0 g1 ?_
  refine Fr.iconst (by decide +kernel : zi 223 82 = some (.iconst 1, 1)) (by decide) ?_
  exact Fr.retI (by decide +kernel : zi 223 83 = some (.ireturn, 1)) (by decide +kernel) h
-- 224 X8_copy
theorem f224_0 {xs : Nat → Int} {L : Nat} {d : Nat} {v1 : Int} {v2 : Int} {v3 : Int} {v4 : Int} {v5 : Int} {s : Pl} {P : Int → Pl → Prop} (h : Ev xs L T0 106 d 221 [it v1] s (qi fun r2 s1 => ((r2 = 0 → P (-2) s1) ∧ (¬ (r2 = 0) → Ev xs L T0 106 d 221 [it v3] s1 (qi fun r4 s3 => ((¬ r4 = 0 → (0 ≤ v1 ∧ v1 < 4) ∧ ((s3 102 v1 < 0 → P (-11) s3) ∧ (¬ (s3 102 v1 < 0) → (0 ≤ v3 ∧ v3 < 4) ∧ ((0 ≤ s3 102 v3 → (0 ≤ v1 ∧ v1 < 4) ∧ (0 ≤ v3 ∧ v3 < 4) ∧ ((s3 102 v1 = s3 102 v3 → ((v5 < 0 → P (-12) s3) ∧ (¬ (v5 < 0) → ((v2 < 0 → P (-12) s3) ∧ (¬ (v2 < 0) → ((v4 < 0 → P (-12) s3) ∧ (¬ (v4 < 0) → (0 ≤ v1 ∧ v1 < 4) ∧ ((0 < zlcmp (zl (v2 + v5)) (s3 103 v1) → P (-12) s3) ∧ (¬ (0 < zlcmp (zl (v2 + v5)) (s3 103 v1)) → (0 ≤ v3 ∧ v3 < 4) ∧ ((zlcmp (zl (v4 + v5)) (s3 103 v3) ≤ 0 → Fr xs L T0 106 d 224 111 [some (rf 73), some (it v1), some (it v2), some (it v3), some (it v4), some (it v5), some (it 0)] [] s3 (qi P)) ∧ (¬ (zlcmp (zl (v4 + v5)) (s3 103 v3) ≤ 0) → P (-12) s3))))))))))) ∧ (¬ (s3 102 v1 = s3 102 v3) → P (-13) s3))) ∧ (¬ (0 ≤ s3 102 v3) → P (-11) s3))))) ∧ (¬ (¬ r4 = 0) → P (-2) s3))))))) : Fr xs L T0 106 d 224 0 [some (rf 73), some (it v1), some (it v2), some (it v3), some (it v4), some (it v5), none] [] s (qi P) := by
  refine Fr.ildn (by decide +kernel : zi 224 0 = some (.iload_n 1, 1)) rfl ?_
  refine Fr.callI (y2 := 221) (na := 1) (as := [it v1]) (rest := []) (by decide +kernel : zi 224 1 = some (.invokestatic 364, 3)) rfl (by decide +kernel) (by decide +kernel) rfl rfl (zok_S rfl (by decide) (by decide +kernel) rfl (Nat.le_of_ble_eq_true rfl)) h (fun r2 s1 h => ?_)
  refine Fr.if0 (q := 14) (by decide +kernel : zi 224 4 = some (.ifCond .eq 10, 3)) (by decide +kernel) (fun g9 => ?_) (fun g9 => ?_)
  · have h := h.1 g9
    refine Fr.bipush (by decide +kernel : zi 224 14 = some (.bipush (-2), 2)) (by decide) ?_
    exact Fr.retI (by decide +kernel : zi 224 16 = some (.ireturn, 1)) (by decide +kernel) h
  · have h := h.2 g9
    refine Fr.ildn (by decide +kernel : zi 224 7 = some (.iload_n 3, 1)) rfl ?_
    refine Fr.callI (y2 := 221) (na := 1) (as := [it v3]) (rest := []) (by decide +kernel : zi 224 8 = some (.invokestatic 364, 3)) rfl (by decide +kernel) (by decide +kernel) rfl rfl (zok_S rfl (by decide) (by decide +kernel) rfl (Nat.le_of_ble_eq_true rfl)) h (fun r4 s3 h => ?_)
    refine Fr.if0 (q := 17) (by decide +kernel : zi 224 11 = some (.ifCond .ne 6, 3)) (by decide +kernel) (fun g9 => ?_) (fun g9 => ?_)
    · have h := h.1 g9
      refine Fr.aldn (c := 73) (by decide +kernel : zi 224 17 = some (.aload_n 0, 1)) rfl ⟨by omega, by omega⟩ ?_
      refine Fr.gR (c := 72) (c2 := 103) (ci := 8) (k := 52) 52 (by decide +kernel : zi 224 18 = some (.getfield 103, 3)) (by decide +kernel) (by decide +kernel) (by decide +kernel) (by decide) rfl (fun q => q (72, 52, 103) (by decide +kernel)) ?_
      refine Fr.ildn (by decide +kernel : zi 224 21 = some (.iload_n 1, 1)) rfl ?_
      obtain ⟨⟨g0, g1⟩, h⟩ := h
      refine Fr.iald (c := 102) (N := 4) (by decide +kernel : zi 224 22 = some (.iaload, 1)) (by decide +kernel) (by decide) g0 g1 ?_
      refine Fr.if0 (q := 35) (by decide +kernel : zi 224 23 = some (.ifCond .lt 12, 3)) (by decide +kernel) (fun g9 => ?_) (fun g9 => ?_)
      · have h := h.1 g9
        refine Fr.bipush (by decide +kernel : zi 224 35 = some (.bipush (-11), 2)) (by decide) ?_
        exact Fr.retI (by decide +kernel : zi 224 37 = some (.ireturn, 1)) (by decide +kernel) h
      · have h := h.2 g9
        refine Fr.aldn (c := 73) (by decide +kernel : zi 224 26 = some (.aload_n 0, 1)) rfl ⟨by omega, by omega⟩ ?_
        refine Fr.gR (c := 72) (c2 := 103) (ci := 8) (k := 52) 52 (by decide +kernel : zi 224 27 = some (.getfield 103, 3)) (by decide +kernel) (by decide +kernel) (by decide +kernel) (by decide) rfl (fun q => q (72, 52, 103) (by decide +kernel)) ?_
        refine Fr.ildn (by decide +kernel : zi 224 30 = some (.iload_n 3, 1)) rfl ?_
        obtain ⟨⟨g0, g1⟩, h⟩ := h
        refine Fr.iald (c := 102) (N := 4) (by decide +kernel : zi 224 31 = some (.iaload, 1)) (by decide +kernel) (by decide) g0 g1 ?_
        refine Fr.if0 (q := 38) (by decide +kernel : zi 224 32 = some (.ifCond .ge 6, 3)) (by decide +kernel) (fun g9 => ?_) (fun g9 => ?_)
        · have h := h.1 g9
          refine Fr.aldn (c := 73) (by decide +kernel : zi 224 38 = some (.aload_n 0, 1)) rfl ⟨by omega, by omega⟩ ?_
          refine Fr.gR (c := 72) (c2 := 103) (ci := 8) (k := 52) 52 (by decide +kernel : zi 224 39 = some (.getfield 103, 3)) (by decide +kernel) (by decide +kernel) (by decide +kernel) (by decide) rfl (fun q => q (72, 52, 103) (by decide +kernel)) ?_
          refine Fr.ildn (by decide +kernel : zi 224 42 = some (.iload_n 1, 1)) rfl ?_
          obtain ⟨⟨g0, g1⟩, h⟩ := h
          refine Fr.iald (c := 102) (N := 4) (by decide +kernel : zi 224 43 = some (.iaload, 1)) (by decide +kernel) (by decide) g0 g1 ?_
          refine Fr.aldn (c := 73) (by decide +kernel : zi 224 44 = some (.aload_n 0, 1)) rfl ⟨by omega, by omega⟩ ?_
          refine Fr.gR (c := 72) (c2 := 103) (ci := 8) (k := 52) 52 (by decide +kernel : zi 224 45 = some (.getfield 103, 3)) (by decide +kernel) (by decide +kernel) (by decide +kernel) (by decide) rfl (fun q => q (72, 52, 103) (by decide +kernel)) ?_
          refine Fr.ildn (by decide +kernel : zi 224 48 = some (.iload_n 3, 1)) rfl ?_
          obtain ⟨⟨g0, g1⟩, h⟩ := h
          refine Fr.iald (c := 102) (N := 4) (by decide +kernel : zi 224 49 = some (.iaload, 1)) (by decide +kernel) (by decide) g0 g1 ?_
          refine Fr.if2 (q := 56) (by decide +kernel : zi 224 50 = some (.if_icmp .eq 6, 3)) (by decide +kernel) (fun g9 => ?_) (fun g9 => ?_)
          · have h := h.1 g9
            refine Fr.ild (by decide +kernel : zi 224 56 = some (.iload 5, 2)) rfl ?_
            refine Fr.if0 (q := 105) (by decide +kernel : zi 224 58 = some (.ifCond .lt 47, 3)) (by decide +kernel) (fun g9 => ?_) (fun g9 => ?_)
            · have h := h.1 g9
              refine Fr.bipush (by decide +kernel : zi 224 105 = some (.bipush (-12), 2)) (by decide) ?_
              exact Fr.retI (by decide +kernel : zi 224 107 = some (.ireturn, 1)) (by decide +kernel) h
            · have h := h.2 g9
              refine Fr.ildn (by decide +kernel : zi 224 61 = some (.iload_n 2, 1)) rfl ?_
              refine Fr.if0 (q := 105) (by decide +kernel : zi 224 62 = some (.ifCond .lt 43, 3)) (by decide +kernel) (fun g9 => ?_) (fun g9 => ?_)
              · have h := h.1 g9
                refine Fr.bipush (by decide +kernel : zi 224 105 = some (.bipush (-12), 2)) (by decide) ?_
                exact Fr.retI (by decide +kernel : zi 224 107 = some (.ireturn, 1)) (by decide +kernel) h
              · have h := h.2 g9
                refine Fr.ild (by decide +kernel : zi 224 65 = some (.iload 4, 2)) rfl ?_
                refine Fr.if0 (q := 105) (by decide +kernel : zi 224 67 = some (.ifCond .lt 38, 3)) (by decide +kernel) (fun g9 => ?_) (fun g9 => ?_)
                · have h := h.1 g9
                  refine Fr.bipush (by decide +kernel : zi 224 105 = some (.bipush (-12), 2)) (by decide) ?_
                  exact Fr.retI (by decide +kernel : zi 224 107 = some (.ireturn, 1)) (by decide +kernel) h
                · have h := h.2 g9
                  refine Fr.ildn (by decide +kernel : zi 224 70 = some (.iload_n 2, 1)) rfl ?_
                  refine Fr.i2l (by decide +kernel : zi 224 71 = some (.i2l, 1)) ?_
                  refine Fr.ild (by decide +kernel : zi 224 72 = some (.iload 5, 2)) rfl ?_
                  refine Fr.i2l (by decide +kernel : zi 224 74 = some (.i2l, 1)) ?_
                  refine Fr.ladd (by decide +kernel : zi 224 75 = some (.ladd, 1)) ?_
                  refine Fr.aldn (c := 73) (by decide +kernel : zi 224 76 = some (.aload_n 0, 1)) rfl ⟨by omega, by omega⟩ ?_
                  refine Fr.gR (c := 72) (c2 := 104) (ci := 8) (k := 53) 53 (by decide +kernel : zi 224 77 = some (.getfield 106, 3)) (by decide +kernel) (by decide +kernel) (by decide +kernel) (by decide) rfl (fun q => q (72, 53, 104) (by decide +kernel)) ?_
                  refine Fr.ildn (by decide +kernel : zi 224 80 = some (.iload_n 1, 1)) rfl ?_
                  obtain ⟨⟨g0, g1⟩, h⟩ := h
                  refine Fr.iald (c := 103) (N := 4) (by decide +kernel : zi 224 81 = some (.iaload, 1)) (by decide +kernel) (by decide) g0 g1 ?_
                  refine Fr.i2l (by decide +kernel : zi 224 82 = some (.i2l, 1)) ?_
                  refine Fr.lcmp (by decide +kernel : zi 224 83 = some (.lcmp, 1)) ?_
                  refine Fr.if0 (q := 105) (by decide +kernel : zi 224 84 = some (.ifCond .gt 21, 3)) (by decide +kernel) (fun g9 => ?_) (fun g9 => ?_)
                  · have h := h.1 g9
                    refine Fr.bipush (by decide +kernel : zi 224 105 = some (.bipush (-12), 2)) (by decide) ?_
                    exact Fr.retI (by decide +kernel : zi 224 107 = some (.ireturn, 1)) (by decide +kernel) h
                  · have h := h.2 g9
                    refine Fr.ild (by decide +kernel : zi 224 87 = some (.iload 4, 2)) rfl ?_
                    refine Fr.i2l (by decide +kernel : zi 224 89 = some (.i2l, 1)) ?_
                    refine Fr.ild (by decide +kernel : zi 224 90 = some (.iload 5, 2)) rfl ?_
                    refine Fr.i2l (by decide +kernel : zi 224 92 = some (.i2l, 1)) ?_
                    refine Fr.ladd (by decide +kernel : zi 224 93 = some (.ladd, 1)) ?_
                    refine Fr.aldn (c := 73) (by decide +kernel : zi 224 94 = some (.aload_n 0, 1)) rfl ⟨by omega, by omega⟩ ?_
                    refine Fr.gR (c := 72) (c2 := 104) (ci := 8) (k := 53) 53 (by decide +kernel : zi 224 95 = some (.getfield 106, 3)) (by decide +kernel) (by decide +kernel) (by decide +kernel) (by decide) rfl (fun q => q (72, 53, 104) (by decide +kernel)) ?_
                    refine Fr.ildn (by decide +kernel : zi 224 98 = some (.iload_n 3, 1)) rfl ?_
                    obtain ⟨⟨g0, g1⟩, h⟩ := h
                    refine Fr.iald (c := 103) (N := 4) (by decide +kernel : zi 224 99 = some (.iaload, 1)) (by decide +kernel) (by decide) g0 g1 ?_
                    refine Fr.i2l (by decide +kernel : zi 224 100 = some (.i2l, 1)) ?_
                    refine Fr.lcmp (by decide +kernel : zi 224 101 = some (.lcmp, 1)) ?_
                    refine Fr.if0 (q := 108) (by decide +kernel : zi 224 102 = some (.ifCond .le 6, 3)) (by decide +kernel) (fun g9 => ?_) (fun g9 => ?_)
                    · have h := h.1 g9
                      refine Fr.iconst (by decide +kernel : zi 224 108 = some (.iconst 0, 1)) (by decide) ?_
                      refine Fr.ist (lv2 := [some (rf 73), some (it v1), some (it v2), some (it v3), some (it v4), some (it v5), some (it 0)]) (by decide +kernel : zi 224 109 = some (.istore 6, 2)) (Nat.le_of_ble_eq_true rfl) rfl ?_
                      exact h
                    · have h := h.2 g9
                      refine Fr.bipush (by decide +kernel : zi 224 105 = some (.bipush (-12), 2)) (by decide) ?_
                      exact Fr.retI (by decide +kernel : zi 224 107 = some (.ireturn, 1)) (by decide +kernel) h
          · have h := h.2 g9
            refine Fr.bipush (by decide +kernel : zi 224 53 = some (.bipush (-13), 2)) (by decide) ?_
            exact Fr.retI (by decide +kernel : zi 224 55 = some (.ireturn, 1)) (by decide +kernel) h
        · have h := h.2 g9
          refine Fr.bipush (by decide +kernel : zi 224 35 = some (.bipush (-11), 2)) (by decide) ?_
          exact Fr.retI (by decide +kernel : zi 224 37 = some (.ireturn, 1)) (by decide +kernel) h
    · have h := h.2 g9
      refine Fr.bipush (by decide +kernel : zi 224 14 = some (.bipush (-2), 2)) (by decide) ?_
      exact Fr.retI (by decide +kernel : zi 224 16 = some (.ireturn, 1)) (by decide +kernel) h
theorem e224 {xs : Nat → Int} {L : Nat} {d : Nat} {v1 : Int} {v2 : Int} {v3 : Int} {v4 : Int} {v5 : Int} {s : Pl} {Q : Option AV → Pl → Prop} (hd : 1 ≤ d) (k : Fr xs L T0 106 (d - 1) 224 0 [some (rf 73), some (it v1), some (it v2), some (it v3), some (it v4), some (it v5), none] [] s Q) : Ev xs L T0 106 d 224 [rf 73, it v1, it v2, it v3, it v4, it v5] s Q := Ev.of (by decide) _ rfl hd k
theorem f224_111 {xs : Nat → Int} {L : Nat} {d : Nat} {v1 : Int} {v2 : Int} {v3 : Int} {v4 : Int} {v5 : Int} {v6 : Int} {s : Pl} {P : Int → Pl → Prop} (h : ((v5 ≤ v6 → Fr xs L T0 106 d 224 148 [some (rf 73), some (it v1), some (it v2), some (it v3), some (it v4), some (it v5), some (it 0)] [] s (qi P)) ∧ (¬ (v5 ≤ v6) → (0 ≤ zw ((zw ((zw (40 * v1)) + v2)) + v6) ∧ zw ((zw ((zw (40 * v1)) + v2)) + v6) < 160) ∧ (0 ≤ v6 ∧ v6 < 40) ∧ Fr xs L T0 106 d 224 111 [some (rf 73), some (it v1), some (it v2), some (it v3), some (it v4), some (it v5), some (it (zw (v6 + 1)))] [] (zup s 105 v6 (s 104 (zw ((zw ((zw (40 * v1)) + v2)) + v6)))) (qi P)))) : Fr xs L T0 106 d 224 111 [some (rf 73), some (it v1), some (it v2), some (it v3), some (it v4), some (it v5), some (it v6)] [] s (qi P) := by
  refine Fr.ild (by decide +kernel : zi 224 111 = some (.iload 6, 2)) rfl ?_
  refine Fr.ild (by decide +kernel : zi 224 113 = some (.iload 5, 2)) rfl ?_
  refine Fr.if2 (q := 145) (by decide +kernel : zi 224 115 = some (.if_icmp .ge 30, 3)) (by decide +kernel) (fun g9 => ?_) (fun g9 => ?_)
  · have h := h.1 g9
    refine Fr.iconst (by decide +kernel : zi 224 145 = some (.iconst 0, 1)) (by decide) ?_
    refine Fr.ist (lv2 := [some (rf 73), some (it v1), some (it v2), some (it v3), some (it v4), some (it v5), some (it 0)]) (by decide +kernel : zi 224 146 = some (.istore 6, 2)) (Nat.le_of_ble_eq_true rfl) rfl ?_
    exact h
  · have h := h.2 g9
    refine Fr.aldn (c := 73) (by decide +kernel : zi 224 118 = some (.aload_n 0, 1)) rfl ⟨by omega, by omega⟩ ?_
    refine Fr.gR (c := 72) (c2 := 106) (ci := 8) (k := 55) 55 (by decide +kernel : zi 224 119 = some (.getfield 112, 3)) (by decide +kernel) (by decide +kernel) (by decide +kernel) (by decide) rfl (fun q => q (72, 55, 106) (by decide +kernel)) ?_
    refine Fr.ild (by decide +kernel : zi 224 122 = some (.iload 6, 2)) rfl ?_
    refine Fr.aldn (c := 73) (by decide +kernel : zi 224 124 = some (.aload_n 0, 1)) rfl ⟨by omega, by omega⟩ ?_
    refine Fr.gR (c := 72) (c2 := 105) (ci := 8) (k := 54) 54 (by decide +kernel : zi 224 125 = some (.getfield 109, 3)) (by decide +kernel) (by decide +kernel) (by decide +kernel) (by decide) rfl (fun q => q (72, 54, 105) (by decide +kernel)) ?_
    refine Fr.bipush (by decide +kernel : zi 224 128 = some (.bipush 40, 2)) (by decide) ?_
    refine Fr.ildn (by decide +kernel : zi 224 130 = some (.iload_n 1, 1)) rfl ?_
    refine Fr.imul (by decide +kernel : zi 224 131 = some (.imul, 1)) ?_
    refine Fr.ildn (by decide +kernel : zi 224 132 = some (.iload_n 2, 1)) rfl ?_
    refine Fr.iadd (by decide +kernel : zi 224 133 = some (.iadd, 1)) ?_
    refine Fr.ild (by decide +kernel : zi 224 134 = some (.iload 6, 2)) rfl ?_
    refine Fr.iadd (by decide +kernel : zi 224 136 = some (.iadd, 1)) ?_
    obtain ⟨⟨g0, g1⟩, h⟩ := h
    refine Fr.iald (c := 104) (N := 160) (by decide +kernel : zi 224 137 = some (.iaload, 1)) (by decide +kernel) (by decide) g0 g1 ?_
    obtain ⟨⟨g0, g1⟩, h⟩ := h
    refine Fr.iast (c := 105) (N := 40) (by decide +kernel : zi 224 138 = some (.iastore, 1)) (by decide +kernel) (by decide) g0 g1 ?_
    refine Fr.iinc (lv2 := [some (rf 73), some (it v1), some (it v2), some (it v3), some (it v4), some (it v5), some (it (zw (v6 + 1)))]) (by decide +kernel : zi 224 139 = some (.iinc 6 1, 3)) (Nat.le_of_ble_eq_true rfl) rfl rfl ?_
    refine Fr.goto (q := 111) (by decide +kernel : zi 224 142 = some (.goto (-31), 3)) (by decide +kernel) ?_
    exact h
theorem f224_148 {xs : Nat → Int} {L : Nat} {d : Nat} {v1 : Int} {v2 : Int} {v3 : Int} {v4 : Int} {v5 : Int} {v6 : Int} {s : Pl} {P : Int → Pl → Prop} (h : ((v5 ≤ v6 → P v5 s) ∧ (¬ (v5 ≤ v6) → (0 ≤ v6 ∧ v6 < 40) ∧ (0 ≤ zw ((zw ((zw (40 * v3)) + v4)) + v6) ∧ zw ((zw ((zw (40 * v3)) + v4)) + v6) < 160) ∧ Fr xs L T0 106 d 224 148 [some (rf 73), some (it v1), some (it v2), some (it v3), some (it v4), some (it v5), some (it (zw (v6 + 1)))] [] (zup s 104 (zw ((zw ((zw (40 * v3)) + v4)) + v6)) (s 105 v6)) (qi P)))) : Fr xs L T0 106 d 224 148 [some (rf 73), some (it v1), some (it v2), some (it v3), some (it v4), some (it v5), some (it v6)] [] s (qi P) := by
  refine Fr.ild (by decide +kernel : zi 224 148 = some (.iload 6, 2)) rfl ?_
  refine Fr.ild (by decide +kernel : zi 224 150 = some (.iload 5, 2)) rfl ?_
  refine Fr.if2 (q := 183) (by decide +kernel : zi 224 152 = some (.if_icmp .ge 31, 3)) (by decide +kernel) (fun g9 => ?_) (fun g9 => ?_)
  · have h := h.1 g9
    refine Fr.ild (by decide +kernel : zi 224 183 = some (.iload 5, 2)) rfl ?_
    exact Fr.retI (by decide +kernel : zi 224 185 = some (.ireturn, 1)) (by decide +kernel) h
  · have h := h.2 g9
    refine Fr.aldn (c := 73) (by decide +kernel : zi 224 155 = some (.aload_n 0, 1)) rfl ⟨by omega, by omega⟩ ?_
    refine Fr.gR (c := 72) (c2 := 105) (ci := 8) (k := 54) 54 (by decide +kernel : zi 224 156 = some (.getfield 109, 3)) (by decide +kernel) (by decide +kernel) (by decide +kernel) (by decide) rfl (fun q => q (72, 54, 105) (by decide +kernel)) ?_
    refine Fr.bipush (by decide +kernel : zi 224 159 = some (.bipush 40, 2)) (by decide) ?_
    refine Fr.ildn (by decide +kernel : zi 224 161 = some (.iload_n 3, 1)) rfl ?_
    refine Fr.imul (by decide +kernel : zi 224 162 = some (.imul, 1)) ?_
    refine Fr.ild (by decide +kernel : zi 224 163 = some (.iload 4, 2)) rfl ?_
    refine Fr.iadd (by decide +kernel : zi 224 165 = some (.iadd, 1)) ?_
    refine Fr.ild (by decide +kernel : zi 224 166 = some (.iload 6, 2)) rfl ?_
    refine Fr.iadd (by decide +kernel : zi 224 168 = some (.iadd, 1)) ?_
    refine Fr.aldn (c := 73) (by decide +kernel : zi 224 169 = some (.aload_n 0, 1)) rfl ⟨by omega, by omega⟩ ?_
    refine Fr.gR (c := 72) (c2 := 106) (ci := 8) (k := 55) 55 (by decide +kernel : zi 224 170 = some (.getfield 112, 3)) (by decide +kernel) (by decide +kernel) (by decide +kernel) (by decide) rfl (fun q => q (72, 55, 106) (by decide +kernel)) ?_
    refine Fr.ild (by decide +kernel : zi 224 173 = some (.iload 6, 2)) rfl ?_
    obtain ⟨⟨g0, g1⟩, h⟩ := h
    refine Fr.iald (c := 105) (N := 40) (by decide +kernel : zi 224 175 = some (.iaload, 1)) (by decide +kernel) (by decide) g0 g1 ?_
    obtain ⟨⟨g0, g1⟩, h⟩ := h
    refine Fr.iast (c := 104) (N := 160) (by decide +kernel : zi 224 176 = some (.iastore, 1)) (by decide +kernel) (by decide) g0 g1 ?_
    refine Fr.iinc (lv2 := [some (rf 73), some (it v1), some (it v2), some (it v3), some (it v4), some (it v5), some (it (zw (v6 + 1)))]) (by decide +kernel : zi 224 177 = some (.iinc 6 1, 3)) (Nat.le_of_ble_eq_true rfl) rfl rfl ?_
    refine Fr.goto (q := 148) (by decide +kernel : zi 224 180 = some (.goto (-32), 3)) (by decide +kernel) ?_
    exact h
-- 225 X8_peopleBy
theorem f225_0 {xs : Nat → Int} {L : Nat} {d : Nat} {v1 : Int} {v2 : Int} {v3 : Int} {v4 : Int} {s : Pl} {P : Int → Pl → Prop} (h : Ev xs L T0 106 d 221 [it v1] s (qi fun r2 s1 => ((r2 = 0 → P (-2) s1) ∧ (¬ (r2 = 0) → Ev xs L T0 106 d 132 [it v2, it 0, it 2] s1 (qi fun r4 s3 => ((r4 = 0 → P (-2) s3) ∧ (¬ (r4 = 0) → Ev xs L T0 106 d 132 [it v4, it 0, it 6] s3 (qi fun r6 s5 => ((¬ r6 = 0 → (0 ≤ v1 ∧ v1 < 4) ∧ ((0 ≤ s5 102 v1 → (0 ≤ v1 ∧ v1 < 4) ∧ ((s5 102 v1 = v2 → Fr xs L T0 106 d 225 61 [some (rf 73), some (it v1), some (it v2), some (it v3), some (it v4), some (it 0), some (it 0), none, none, none] [] s5 (qi P)) ∧ (¬ (s5 102 v1 = v2) → P (-13) s5))) ∧ (¬ (0 ≤ s5 102 v1) → P (-11) s5))) ∧ (¬ (¬ r6 = 0) → P (-2) s5)))))))))) : Fr xs L T0 106 d 225 0 [some (rf 73), some (it v1), some (it v2), some (it v3), some (it v4), none, none, none, none, none] [] s (qi P) := by
  refine Fr.ildn (by decide +kernel : zi 225 0 = some (.iload_n 1, 1)) rfl ?_
  refine Fr.callI (y2 := 221) (na := 1) (as := [it v1]) (rest := []) (by decide +kernel : zi 225 1 = some (.invokestatic 364, 3)) rfl (by decide +kernel) (by decide +kernel) rfl rfl (zok_S rfl (by decide) (by decide +kernel) rfl (Nat.le_of_ble_eq_true rfl)) h (fun r2 s1 h => ?_)
  refine Fr.if0 (q := 27) (by decide +kernel : zi 225 4 = some (.ifCond .eq 23, 3)) (by decide +kernel) (fun g9 => ?_) (fun g9 => ?_)
  · have h := h.1 g9
    refine Fr.bipush (by decide +kernel : zi 225 27 = some (.bipush (-2), 2)) (by decide) ?_
    exact Fr.retI (by decide +kernel : zi 225 29 = some (.ireturn, 1)) (by decide +kernel) h
  · have h := h.2 g9
    refine Fr.ildn (by decide +kernel : zi 225 7 = some (.iload_n 2, 1)) rfl ?_
    refine Fr.iconst (by decide +kernel : zi 225 8 = some (.iconst 0, 1)) (by decide) ?_
    refine Fr.iconst (by decide +kernel : zi 225 9 = some (.iconst 2, 1)) (by decide) ?_
    refine Fr.callI (y2 := 132) (na := 3) (as := [it v2, it 0, it 2]) (rest := []) (by decide +kernel : zi 225 10 = some (.invokestatic 118, 3)) rfl (by decide +kernel) (by decide +kernel) rfl rfl (zok_S rfl (by decide) (by decide +kernel) rfl (Nat.le_of_ble_eq_true rfl)) h (fun r4 s3 h => ?_)
    refine Fr.if0 (q := 27) (by decide +kernel : zi 225 13 = some (.ifCond .eq 14, 3)) (by decide +kernel) (fun g9 => ?_) (fun g9 => ?_)
    · have h := h.1 g9
      refine Fr.bipush (by decide +kernel : zi 225 27 = some (.bipush (-2), 2)) (by decide) ?_
      exact Fr.retI (by decide +kernel : zi 225 29 = some (.ireturn, 1)) (by decide +kernel) h
    · have h := h.2 g9
      refine Fr.ild (by decide +kernel : zi 225 16 = some (.iload 4, 2)) rfl ?_
      refine Fr.iconst (by decide +kernel : zi 225 18 = some (.iconst 0, 1)) (by decide) ?_
      refine Fr.bipush (by decide +kernel : zi 225 19 = some (.bipush 6, 2)) (by decide) ?_
      refine Fr.callI (y2 := 132) (na := 3) (as := [it v4, it 0, it 6]) (rest := []) (by decide +kernel : zi 225 21 = some (.invokestatic 118, 3)) rfl (by decide +kernel) (by decide +kernel) rfl rfl (zok_S rfl (by decide) (by decide +kernel) rfl (Nat.le_of_ble_eq_true rfl)) h (fun r6 s5 h => ?_)
      refine Fr.if0 (q := 30) (by decide +kernel : zi 225 24 = some (.ifCond .ne 6, 3)) (by decide +kernel) (fun g9 => ?_) (fun g9 => ?_)
      · have h := h.1 g9
        refine Fr.aldn (c := 73) (by decide +kernel : zi 225 30 = some (.aload_n 0, 1)) rfl ⟨by omega, by omega⟩ ?_
        refine Fr.gR (c := 72) (c2 := 103) (ci := 8) (k := 52) 52 (by decide +kernel : zi 225 31 = some (.getfield 103, 3)) (by decide +kernel) (by decide +kernel) (by decide +kernel) (by decide) rfl (fun q => q (72, 52, 103) (by decide +kernel)) ?_
        refine Fr.ildn (by decide +kernel : zi 225 34 = some (.iload_n 1, 1)) rfl ?_
        obtain ⟨⟨g0, g1⟩, h⟩ := h
        refine Fr.iald (c := 102) (N := 4) (by decide +kernel : zi 225 35 = some (.iaload, 1)) (by decide +kernel) (by decide) g0 g1 ?_
        refine Fr.if0 (q := 42) (by decide +kernel : zi 225 36 = some (.ifCond .ge 6, 3)) (by decide +kernel) (fun g9 => ?_) (fun g9 => ?_)
        · have h := h.1 g9
          refine Fr.aldn (c := 73) (by decide +kernel : zi 225 42 = some (.aload_n 0, 1)) rfl ⟨by omega, by omega⟩ ?_
          refine Fr.gR (c := 72) (c2 := 103) (ci := 8) (k := 52) 52 (by decide +kernel : zi 225 43 = some (.getfield 103, 3)) (by decide +kernel) (by decide +kernel) (by decide +kernel) (by decide) rfl (fun q => q (72, 52, 103) (by decide +kernel)) ?_
          refine Fr.ildn (by decide +kernel : zi 225 46 = some (.iload_n 1, 1)) rfl ?_
          obtain ⟨⟨g0, g1⟩, h⟩ := h
          refine Fr.iald (c := 102) (N := 4) (by decide +kernel : zi 225 47 = some (.iaload, 1)) (by decide +kernel) (by decide) g0 g1 ?_
          refine Fr.ildn (by decide +kernel : zi 225 48 = some (.iload_n 2, 1)) rfl ?_
          refine Fr.if2 (q := 55) (by decide +kernel : zi 225 49 = some (.if_icmp .eq 6, 3)) (by decide +kernel) (fun g9 => ?_) (fun g9 => ?_)
          · have h := h.1 g9
            refine Fr.iconst (by decide +kernel : zi 225 55 = some (.iconst 0, 1)) (by decide) ?_
            refine Fr.ist (lv2 := [some (rf 73), some (it v1), some (it v2), some (it v3), some (it v4), some (it 0), none, none, none, none]) (by decide +kernel : zi 225 56 = some (.istore 5, 2)) (Nat.le_of_ble_eq_true rfl) rfl ?_
            refine Fr.iconst (by decide +kernel : zi 225 58 = some (.iconst 0, 1)) (by decide) ?_
            refine Fr.ist (lv2 := [some (rf 73), some (it v1), some (it v2), some (it v3), some (it v4), some (it 0), some (it 0), none, none, none]) (by decide +kernel : zi 225 59 = some (.istore 6, 2)) (Nat.le_of_ble_eq_true rfl) rfl ?_
            exact h
          · have h := h.2 g9
            refine Fr.bipush (by decide +kernel : zi 225 52 = some (.bipush (-13), 2)) (by decide) ?_
            exact Fr.retI (by decide +kernel : zi 225 54 = some (.ireturn, 1)) (by decide +kernel) h
        · have h := h.2 g9
          refine Fr.bipush (by decide +kernel : zi 225 39 = some (.bipush (-11), 2)) (by decide) ?_
          exact Fr.retI (by decide +kernel : zi 225 41 = some (.ireturn, 1)) (by decide +kernel) h
      · have h := h.2 g9
        refine Fr.bipush (by decide +kernel : zi 225 27 = some (.bipush (-2), 2)) (by decide) ?_
        exact Fr.retI (by decide +kernel : zi 225 29 = some (.ireturn, 1)) (by decide +kernel) h
theorem e225 {xs : Nat → Int} {L : Nat} {d : Nat} {v1 : Int} {v2 : Int} {v3 : Int} {v4 : Int} {s : Pl} {Q : Option AV → Pl → Prop} (hd : 1 ≤ d) (k : Fr xs L T0 106 (d - 1) 225 0 [some (rf 73), some (it v1), some (it v2), some (it v3), some (it v4), none, none, none, none, none] [] s Q) : Ev xs L T0 106 d 225 [rf 73, it v1, it v2, it v3, it v4] s Q := Ev.of (by decide) _ rfl hd k
theorem f225_61 {xs : Nat → Int} {L : Nat} {d : Nat} {v1 : Int} {v2 : Int} {v3 : Int} {v4 : Int} {v5 : Int} {v6 : Int} {w7 : Option AV} {w9 : Option AV} {s : Pl} {P : Int → Pl → Prop} (h : ((v4 ≤ v6 → P v5 s) ∧ (¬ (v4 ≤ v6) → ((zlcmp (zl (v3 + (zw (4 * v6)))) 0 < 0 → P (-12) s) ∧ (¬ (zlcmp (zl (v3 + (zw (4 * v6)))) 0 < 0) → (0 ≤ v1 ∧ v1 < 4) ∧ ((zlcmp (zl ((zl (v3 + (zw (4 * v6)))) + 3)) (s 103 v1) < 0 → (0 ≤ zw ((zw (40 * v1)) + (zw (zl (v3 + (zw (4 * v6)))))) ∧ zw ((zw (40 * v1)) + (zw (zl (v3 + (zw (4 * v6)))))) < 160) ∧ (0 ≤ zw ((zw ((zw (40 * v1)) + (zw (zl (v3 + (zw (4 * v6))))))) + 1) ∧ zw ((zw ((zw (40 * v1)) + (zw (zl (v3 + (zw (4 * v6))))))) + 1) < 160) ∧ (0 ≤ zw ((zw ((zw (40 * v1)) + (zw (zl (v3 + (zw (4 * v6))))))) + 2) ∧ zw ((zw ((zw (40 * v1)) + (zw (zl (v3 + (zw (4 * v6))))))) + 2) < 160) ∧ (0 ≤ zw ((zw ((zw (40 * v1)) + (zw (zl (v3 + (zw (4 * v6))))))) + 3) ∧ zw ((zw ((zw (40 * v1)) + (zw (zl (v3 + (zw (4 * v6))))))) + 3) < 160) ∧ Ev xs L T0 106 d 168 [rf 73, it (s 104 (zw ((zw (40 * v1)) + (zw (zl (v3 + (zw (4 * v6)))))))), it (s 104 (zw ((zw ((zw (40 * v1)) + (zw (zl (v3 + (zw (4 * v6))))))) + 1))), it (s 104 (zw ((zw ((zw (40 * v1)) + (zw (zl (v3 + (zw (4 * v6))))))) + 2))), it (s 104 (zw ((zw ((zw (40 * v1)) + (zw (zl (v3 + (zw (4 * v6))))))) + 3)))] s (qi fun r2 s1 => ((r2 < 0 → Fr xs L T0 106 d 225 159 [some (rf 73), some (it v1), some (it v2), some (it v3), some (it v4), some (it v5), some (it v6), some (lg (zl (v3 + (zw (4 * v6))))), none, some (it (zw ((zw (40 * v1)) + (zw (zl (v3 + (zw (4 * v6))))))))] [] s1 (qi P)) ∧ (¬ (r2 < 0) → Fr xs L T0 106 d 225 159 [some (rf 73), some (it v1), some (it v2), some (it v3), some (it v4), some (it (zw (v5 + 1))), some (it v6), some (lg (zl (v3 + (zw (4 * v6))))), none, some (it (zw ((zw (40 * v1)) + (zw (zl (v3 + (zw (4 * v6))))))))] [] s1 (qi P))))) ∧ (¬ (zlcmp (zl ((zl (v3 + (zw (4 * v6)))) + 3)) (s 103 v1) < 0) → P (-12) s))))))) : Fr xs L T0 106 d 225 61 [some (rf 73), some (it v1), some (it v2), some (it v3), some (it v4), some (it v5), some (it v6), w7, none, w9] [] s (qi P) := by
  refine Fr.ild (by decide +kernel : zi 225 61 = some (.iload 6, 2)) rfl ?_
  refine Fr.ild (by decide +kernel : zi 225 63 = some (.iload 4, 2)) rfl ?_
  refine Fr.if2 (q := 165) (by decide +kernel : zi 225 65 = some (.if_icmp .ge 100, 3)) (by decide +kernel) (fun g9 => ?_) (fun g9 => ?_)
  · have h := h.1 g9
    refine Fr.ild (by decide +kernel : zi 225 165 = some (.iload 5, 2)) rfl ?_
    exact Fr.retI (by decide +kernel : zi 225 167 = some (.ireturn, 1)) (by decide +kernel) h
  · have h := h.2 g9
    refine Fr.ildn (by decide +kernel : zi 225 68 = some (.iload_n 3, 1)) rfl ?_
    refine Fr.i2l (by decide +kernel : zi 225 69 = some (.i2l, 1)) ?_
    refine Fr.iconst (by decide +kernel : zi 225 70 = some (.iconst 4, 1)) (by decide) ?_
    refine Fr.ild (by decide +kernel : zi 225 71 = some (.iload 6, 2)) rfl ?_
    refine Fr.imul (by decide +kernel : zi 225 73 = some (.imul, 1)) ?_
    refine Fr.i2l (by decide +kernel : zi 225 74 = some (.i2l, 1)) ?_
    refine Fr.ladd (by decide +kernel : zi 225 75 = some (.ladd, 1)) ?_
    refine Fr.lst (lv2 := [some (rf 73), some (it v1), some (it v2), some (it v3), some (it v4), some (it v5), some (it v6), some (lg (zl (v3 + (zw (4 * v6))))), none, w9]) (by decide +kernel : zi 225 76 = some (.lstore 7, 2)) (Nat.le_of_ble_eq_true rfl) rfl ?_
    refine Fr.lld (by decide +kernel : zi 225 78 = some (.lload 7, 2)) rfl ?_
    refine Fr.lconst (by decide +kernel : zi 225 80 = some (.lconst 0, 1)) ?_
    refine Fr.lcmp (by decide +kernel : zi 225 81 = some (.lcmp, 1)) ?_
    refine Fr.if0 (q := 102) (by decide +kernel : zi 225 82 = some (.ifCond .lt 20, 3)) (by decide +kernel) (fun g9 => ?_) (fun g9 => ?_)
    · have h := h.1 g9
      refine Fr.bipush (by decide +kernel : zi 225 102 = some (.bipush (-12), 2)) (by decide) ?_
      exact Fr.retI (by decide +kernel : zi 225 104 = some (.ireturn, 1)) (by decide +kernel) h
    · have h := h.2 g9
      refine Fr.lld (by decide +kernel : zi 225 85 = some (.lload 7, 2)) rfl ?_
      refine Fr.ldc2 (v := lg 3) (by decide +kernel : zi 225 87 = some (.ldc2_w 367, 3)) (by decide +kernel) ?_
      refine Fr.ladd (by decide +kernel : zi 225 90 = some (.ladd, 1)) ?_
      refine Fr.aldn (c := 73) (by decide +kernel : zi 225 91 = some (.aload_n 0, 1)) rfl ⟨by omega, by omega⟩ ?_
      refine Fr.gR (c := 72) (c2 := 104) (ci := 8) (k := 53) 53 (by decide +kernel : zi 225 92 = some (.getfield 106, 3)) (by decide +kernel) (by decide +kernel) (by decide +kernel) (by decide) rfl (fun q => q (72, 53, 104) (by decide +kernel)) ?_
      refine Fr.ildn (by decide +kernel : zi 225 95 = some (.iload_n 1, 1)) rfl ?_
      obtain ⟨⟨g0, g1⟩, h⟩ := h
      refine Fr.iald (c := 103) (N := 4) (by decide +kernel : zi 225 96 = some (.iaload, 1)) (by decide +kernel) (by decide) g0 g1 ?_
      refine Fr.i2l (by decide +kernel : zi 225 97 = some (.i2l, 1)) ?_
      refine Fr.lcmp (by decide +kernel : zi 225 98 = some (.lcmp, 1)) ?_
      refine Fr.if0 (q := 105) (by decide +kernel : zi 225 99 = some (.ifCond .lt 6, 3)) (by decide +kernel) (fun g9 => ?_) (fun g9 => ?_)
      · have h := h.1 g9
        refine Fr.bipush (by decide +kernel : zi 225 105 = some (.bipush 40, 2)) (by decide) ?_
        refine Fr.ildn (by decide +kernel : zi 225 107 = some (.iload_n 1, 1)) rfl ?_
        refine Fr.imul (by decide +kernel : zi 225 108 = some (.imul, 1)) ?_
        refine Fr.lld (by decide +kernel : zi 225 109 = some (.lload 7, 2)) rfl ?_
        refine Fr.l2i (by decide +kernel : zi 225 111 = some (.l2i, 1)) ?_
        refine Fr.iadd (by decide +kernel : zi 225 112 = some (.iadd, 1)) ?_
        refine Fr.ist (lv2 := [some (rf 73), some (it v1), some (it v2), some (it v3), some (it v4), some (it v5), some (it v6), some (lg (zl (v3 + (zw (4 * v6))))), none, some (it (zw ((zw (40 * v1)) + (zw (zl (v3 + (zw (4 * v6))))))))]) (by decide +kernel : zi 225 113 = some (.istore 9, 2)) (Nat.le_of_ble_eq_true rfl) rfl ?_
        refine Fr.aldn (c := 73) (by decide +kernel : zi 225 115 = some (.aload_n 0, 1)) rfl ⟨by omega, by omega⟩ ?_
        refine Fr.aldn (c := 73) (by decide +kernel : zi 225 116 = some (.aload_n 0, 1)) rfl ⟨by omega, by omega⟩ ?_
        refine Fr.gR (c := 72) (c2 := 105) (ci := 8) (k := 54) 54 (by decide +kernel : zi 225 117 = some (.getfield 109, 3)) (by decide +kernel) (by decide +kernel) (by decide +kernel) (by decide) rfl (fun q => q (72, 54, 105) (by decide +kernel)) ?_
        refine Fr.ild (by decide +kernel : zi 225 120 = some (.iload 9, 2)) rfl ?_
        obtain ⟨⟨g0, g1⟩, h⟩ := h
        refine Fr.iald (c := 104) (N := 160) (by decide +kernel : zi 225 122 = some (.iaload, 1)) (by decide +kernel) (by decide) g0 g1 ?_
        refine Fr.aldn (c := 73) (by decide +kernel : zi 225 123 = some (.aload_n 0, 1)) rfl ⟨by omega, by omega⟩ ?_
        refine Fr.gR (c := 72) (c2 := 105) (ci := 8) (k := 54) 54 (by decide +kernel : zi 225 124 = some (.getfield 109, 3)) (by decide +kernel) (by decide +kernel) (by decide +kernel) (by decide) rfl (fun q => q (72, 54, 105) (by decide +kernel)) ?_
        refine Fr.ild (by decide +kernel : zi 225 127 = some (.iload 9, 2)) rfl ?_
        refine Fr.iconst (by decide +kernel : zi 225 129 = some (.iconst 1, 1)) (by decide) ?_
        refine Fr.iadd (by decide +kernel : zi 225 130 = some (.iadd, 1)) ?_
        obtain ⟨⟨g0, g1⟩, h⟩ := h
        refine Fr.iald (c := 104) (N := 160) (by decide +kernel : zi 225 131 = some (.iaload, 1)) (by decide +kernel) (by decide) g0 g1 ?_
        refine Fr.aldn (c := 73) (by decide +kernel : zi 225 132 = some (.aload_n 0, 1)) rfl ⟨by omega, by omega⟩ ?_
        refine Fr.gR (c := 72) (c2 := 105) (ci := 8) (k := 54) 54 (by decide +kernel : zi 225 133 = some (.getfield 109, 3)) (by decide +kernel) (by decide +kernel) (by decide +kernel) (by decide) rfl (fun q => q (72, 54, 105) (by decide +kernel)) ?_
        refine Fr.ild (by decide +kernel : zi 225 136 = some (.iload 9, 2)) rfl ?_
        refine Fr.iconst (by decide +kernel : zi 225 138 = some (.iconst 2, 1)) (by decide) ?_
        refine Fr.iadd (by decide +kernel : zi 225 139 = some (.iadd, 1)) ?_
        obtain ⟨⟨g0, g1⟩, h⟩ := h
        refine Fr.iald (c := 104) (N := 160) (by decide +kernel : zi 225 140 = some (.iaload, 1)) (by decide +kernel) (by decide) g0 g1 ?_
        refine Fr.aldn (c := 73) (by decide +kernel : zi 225 141 = some (.aload_n 0, 1)) rfl ⟨by omega, by omega⟩ ?_
        refine Fr.gR (c := 72) (c2 := 105) (ci := 8) (k := 54) 54 (by decide +kernel : zi 225 142 = some (.getfield 109, 3)) (by decide +kernel) (by decide +kernel) (by decide +kernel) (by decide) rfl (fun q => q (72, 54, 105) (by decide +kernel)) ?_
        refine Fr.ild (by decide +kernel : zi 225 145 = some (.iload 9, 2)) rfl ?_
        refine Fr.iconst (by decide +kernel : zi 225 147 = some (.iconst 3, 1)) (by decide) ?_
        refine Fr.iadd (by decide +kernel : zi 225 148 = some (.iadd, 1)) ?_
        obtain ⟨⟨g0, g1⟩, h⟩ := h
        refine Fr.iald (c := 104) (N := 160) (by decide +kernel : zi 225 149 = some (.iaload, 1)) (by decide +kernel) (by decide) g0 g1 ?_
        refine Fr.callI (y2 := 168) (na := 5) (as := [rf 73, it (s 104 (zw ((zw (40 * v1)) + (zw (zl (v3 + (zw (4 * v6)))))))), it (s 104 (zw ((zw ((zw (40 * v1)) + (zw (zl (v3 + (zw (4 * v6))))))) + 1))), it (s 104 (zw ((zw ((zw (40 * v1)) + (zw (zl (v3 + (zw (4 * v6))))))) + 2))), it (s 104 (zw ((zw ((zw (40 * v1)) + (zw (zl (v3 + (zw (4 * v6))))))) + 3)))]) (rest := []) (by decide +kernel : zi 225 150 = some (.invokevirtual 369, 3)) rfl (by decide +kernel) (by decide +kernel) rfl rfl (zok_V rfl (by decide) (by decide +kernel) (by decide +kernel) (zrecv_c (c := 72) (by decide) (by decide +kernel)) rfl (Nat.le_of_ble_eq_true rfl)) h (fun r2 s1 h => ?_)
        refine Fr.if0 (q := 159) (by decide +kernel : zi 225 153 = some (.ifCond .lt 6, 3)) (by decide +kernel) (fun g9 => ?_) (fun g9 => ?_)
        · have h := h.1 g9
          exact h
        · have h := h.2 g9
          refine Fr.iinc (lv2 := [some (rf 73), some (it v1), some (it v2), some (it v3), some (it v4), some (it (zw (v5 + 1))), some (it v6), some (lg (zl (v3 + (zw (4 * v6))))), none, some (it (zw ((zw (40 * v1)) + (zw (zl (v3 + (zw (4 * v6))))))))]) (by decide +kernel : zi 225 156 = some (.iinc 5 1, 3)) (Nat.le_of_ble_eq_true rfl) rfl rfl ?_
          exact h
      · have h := h.2 g9
        refine Fr.bipush (by decide +kernel : zi 225 102 = some (.bipush (-12), 2)) (by decide) ?_
        exact Fr.retI (by decide +kernel : zi 225 104 = some (.ireturn, 1)) (by decide +kernel) h
theorem f225_159 {xs : Nat → Int} {L : Nat} {d : Nat} {v1 : Int} {v2 : Int} {v3 : Int} {v4 : Int} {v5 : Int} {v6 : Int} {v7 : Int} {v9 : Int} {s : Pl} {P : Int → Pl → Prop} (h : Fr xs L T0 106 d 225 61 [some (rf 73), some (it v1), some (it v2), some (it v3), some (it v4), some (it v5), some (it (zw (v6 + 1))), some (lg v7), none, some (it v9)] [] s (qi P)) : Fr xs L T0 106 d 225 159 [some (rf 73), some (it v1), some (it v2), some (it v3), some (it v4), some (it v5), some (it v6), some (lg v7), none, some (it v9)] [] s (qi P) := by
  refine Fr.iinc (lv2 := [some (rf 73), some (it v1), some (it v2), some (it v3), some (it v4), some (it v5), some (it (zw (v6 + 1))), some (lg v7), none, some (it v9)]) (by decide +kernel : zi 225 159 = some (.iinc 6 1, 3)) (Nat.le_of_ble_eq_true rfl) rfl rfl ?_
  refine Fr.goto (q := 61) (by decide +kernel : zi 225 162 = some (.goto (-101), 3)) (by decide +kernel) ?_
  exact h
-- 226 X8_isUnder
theorem f226_0 {xs : Nat → Int} {L : Nat} {d : Nat} {v0 : Int} {v1 : Int} {s : Pl} {P : Int → Pl → Prop} (h : ((v1 = 0 → Fr xs L T0 106 d 226 29 [some (it v0), some (it v1)] [] s (qi P)) ∧ (¬ (v1 = 0) → ((v0 = v1 → Fr xs L T0 106 d 226 29 [some (it v0), some (it v1)] [] s (qi P)) ∧ (¬ (v0 = v1) → ((¬ v1 = 2 → Fr xs L T0 106 d 226 19 [some (it v0), some (it v1)] [] s (qi P)) ∧ (¬ (¬ v1 = 2) → ((v0 = 5 → Fr xs L T0 106 d 226 29 [some (it v0), some (it v1)] [] s (qi P)) ∧ (¬ (v0 = 5) → Fr xs L T0 106 d 226 19 [some (it v0), some (it v1)] [] s (qi P)))))))))) : Fr xs L T0 106 d 226 0 [some (it v0), some (it v1)] [] s (qi P) := by
  refine Fr.ildn (by decide +kernel : zi 226 0 = some (.iload_n 1, 1)) rfl ?_
  refine Fr.if0 (q := 29) (by decide +kernel : zi 226 1 = some (.ifCond .eq 28, 3)) (by decide +kernel) (fun g9 => ?_) (fun g9 => ?_)
  · have h := h.1 g9
    exact h
  · have h := h.2 g9
    refine Fr.ildn (by decide +kernel : zi 226 4 = some (.iload_n 0, 1)) rfl ?_
    refine Fr.ildn (by decide +kernel : zi 226 5 = some (.iload_n 1, 1)) rfl ?_
    refine Fr.if2 (q := 29) (by decide +kernel : zi 226 6 = some (.if_icmp .eq 23, 3)) (by decide +kernel) (fun g9 => ?_) (fun g9 => ?_)
    · have h := h.1 g9
      exact h
    · have h := h.2 g9
      refine Fr.ildn (by decide +kernel : zi 226 9 = some (.iload_n 1, 1)) rfl ?_
      refine Fr.iconst (by decide +kernel : zi 226 10 = some (.iconst 2, 1)) (by decide) ?_
      refine Fr.if2 (q := 19) (by decide +kernel : zi 226 11 = some (.if_icmp .ne 8, 3)) (by decide +kernel) (fun g9 => ?_) (fun g9 => ?_)
      · have h := h.1 g9
        exact h
      · have h := h.2 g9
        refine Fr.ildn (by decide +kernel : zi 226 14 = some (.iload_n 0, 1)) rfl ?_
        refine Fr.iconst (by decide +kernel : zi 226 15 = some (.iconst 5, 1)) (by decide) ?_
        refine Fr.if2 (q := 29) (by decide +kernel : zi 226 16 = some (.if_icmp .eq 13, 3)) (by decide +kernel) (fun g9 => ?_) (fun g9 => ?_)
        · have h := h.1 g9
          exact h
        · have h := h.2 g9
          exact h
theorem e226 {xs : Nat → Int} {L : Nat} {d : Nat} {v0 : Int} {v1 : Int} {s : Pl} {Q : Option AV → Pl → Prop} (hd : 1 ≤ d) (k : Fr xs L T0 106 (d - 1) 226 0 [some (it v0), some (it v1)] [] s Q) : Ev xs L T0 106 d 226 [it v0, it v1] s Q := Ev.of (by decide) _ rfl hd k
theorem f226_19 {xs : Nat → Int} {L : Nat} {d : Nat} {v0 : Int} {v1 : Int} {s : Pl} {P : Int → Pl → Prop} (h : ((¬ v1 = 3 → P 0 s) ∧ (¬ (¬ v1 = 3) → ((¬ v0 = 4 → P 0 s) ∧ (¬ (¬ v0 = 4) → Fr xs L T0 106 d 226 29 [some (it v0), some (it v1)] [] s (qi P)))))) : Fr xs L T0 106 d 226 19 [some (it v0), some (it v1)] [] s (qi P) := by
  refine Fr.ildn (by decide +kernel : zi 226 19 = some (.iload_n 1, 1)) rfl ?_
  refine Fr.iconst (by decide +kernel : zi 226 20 = some (.iconst 3, 1)) (by decide) ?_
  refine Fr.if2 (q := 33) (by decide +kernel : zi 226 21 = some (.if_icmp .ne 12, 3)) (by decide +kernel) (fun g9 => ?_) (fun g9 => ?_)
  · have h := h.1 g9
    refine Fr.iconst (by decide +kernel : zi 226 33 = some (.iconst 0, 1)) (by decide) ?_
    exact Fr.retZ (by decide +kernel : zi 226 34 = some (.ireturn, 1)) (by decide +kernel) (by decide) h
  · have h := h.2 g9
    refine Fr.ildn (by decide +kernel : zi 226 24 = some (.iload_n 0, 1)) rfl ?_
    refine Fr.iconst (by decide +kernel : zi 226 25 = some (.iconst 4, 1)) (by decide) ?_
    refine Fr.if2 (q := 33) (by decide +kernel : zi 226 26 = some (.if_icmp .ne 7, 3)) (by decide +kernel) (fun g9 => ?_) (fun g9 => ?_)
    · have h := h.1 g9
      refine Fr.iconst (by decide +kernel : zi 226 33 = some (.iconst 0, 1)) (by decide) ?_
      exact Fr.retZ (by decide +kernel : zi 226 34 = some (.ireturn, 1)) (by decide +kernel) (by decide) h
    · have h := h.2 g9
      exact h
theorem f226_29 {xs : Nat → Int} {L : Nat} {d : Nat} {v0 : Int} {v1 : Int} {s : Pl} {P : Int → Pl → Prop} (h : P 1 s) : Fr xs L T0 106 d 226 29 [some (it v0), some (it v1)] [] s (qi P) := by
  refine Fr.iconst (by decide +kernel : zi 226 29 = some (.iconst 1, 1)) (by decide) ?_
  refine Fr.goto (q := 34) (by decide +kernel : zi 226 30 = some (.goto 4, 3)) (by decide +kernel) ?_
  exact Fr.retZ (by decide +kernel : zi 226 34 = some (.ireturn, 1)) (by decide +kernel) (by decide) h
-- 227 X8_taken
theorem f227_0 {xs : Nat → Int} {L : Nat} {d : Nat} {v1 : Int} {v2 : Int} {s : Pl} {P : Int → Pl → Prop} (h : Ev xs L T0 106 d 132 [it v2, it 0, it 6] s (qi fun r2 s1 => ((¬ r2 = 0 → Ev xs L T0 106 d 132 [it v1, it 0, it 9] s1 (qi fun r4 s3 => ((¬ r4 = 0 → ((4 ≤ v1 → Ev xs L T0 106 d 135 [rf 73, it (zw (v1 - 4))] s3 (qi fun r6 s5 => ((¬ r6 = 0 → ((6 ≤ v2 → P (-13) s5) ∧ (¬ (6 ≤ v2) → (0 ≤ zw (v1 - 4) ∧ zw (v1 - 4) < 7) ∧ Ev xs L T0 106 d 226 [it (s5 74 (zw (v1 - 4))), it v2] s5 (qi fun r8 s7 => ((r8 = 0 → P (-13) s7) ∧ (¬ (r8 = 0) → P (zw (v1 - 4)) s7)))))) ∧ (¬ (¬ r6 = 0) → P (-11) s5)))) ∧ (¬ (4 ≤ v1) → ((¬ v2 = 6 → P (-13) s3) ∧ (¬ (¬ v2 = 6) → Ev xs L T0 106 d 138 [rf 73, it v1] s3 (qi fun r10 s9 => P r10 s9)))))) ∧ (¬ (¬ r4 = 0) → P (-12) s3)))) ∧ (¬ (¬ r2 = 0) → P (-2) s1)))) : Fr xs L T0 106 d 227 0 [some (rf 73), some (it v1), some (it v2)] [] s (qi P) := by
  refine Fr.ildn (by decide +kernel : zi 227 0 = some (.iload_n 2, 1)) rfl ?_
  refine Fr.iconst (by decide +kernel : zi 227 1 = some (.iconst 0, 1)) (by decide) ?_
  refine Fr.bipush (by decide +kernel : zi 227 2 = some (.bipush 6, 2)) (by decide) ?_
  refine Fr.callI (y2 := 132) (na := 3) (as := [it v2, it 0, it 6]) (rest := []) (by decide +kernel : zi 227 4 = some (.invokestatic 118, 3)) rfl (by decide +kernel) (by decide +kernel) rfl rfl (zok_S rfl (by decide) (by decide +kernel) rfl (Nat.le_of_ble_eq_true rfl)) h (fun r2 s1 h => ?_)
  refine Fr.if0 (q := 13) (by decide +kernel : zi 227 7 = some (.ifCond .ne 6, 3)) (by decide +kernel) (fun g9 => ?_) (fun g9 => ?_)
  · have h := h.1 g9
    refine Fr.ildn (by decide +kernel : zi 227 13 = some (.iload_n 1, 1)) rfl ?_
    refine Fr.iconst (by decide +kernel : zi 227 14 = some (.iconst 0, 1)) (by decide) ?_
    refine Fr.bipush (by decide +kernel : zi 227 15 = some (.bipush 9, 2)) (by decide) ?_
    refine Fr.callI (y2 := 132) (na := 3) (as := [it v1, it 0, it 9]) (rest := []) (by decide +kernel : zi 227 17 = some (.invokestatic 118, 3)) rfl (by decide +kernel) (by decide +kernel) rfl rfl (zok_S rfl (by decide) (by decide +kernel) rfl (Nat.le_of_ble_eq_true rfl)) h (fun r4 s3 h => ?_)
    refine Fr.if0 (q := 26) (by decide +kernel : zi 227 20 = some (.ifCond .ne 6, 3)) (by decide +kernel) (fun g9 => ?_) (fun g9 => ?_)
    · have h := h.1 g9
      refine Fr.ildn (by decide +kernel : zi 227 26 = some (.iload_n 1, 1)) rfl ?_
      refine Fr.iconst (by decide +kernel : zi 227 27 = some (.iconst 4, 1)) (by decide) ?_
      refine Fr.if2 (q := 48) (by decide +kernel : zi 227 28 = some (.if_icmp .ge 20, 3)) (by decide +kernel) (fun g9 => ?_) (fun g9 => ?_)
      · have h := h.1 g9
        refine Fr.aldn (c := 73) (by decide +kernel : zi 227 48 = some (.aload_n 0, 1)) rfl ⟨by omega, by omega⟩ ?_
        refine Fr.ildn (by decide +kernel : zi 227 49 = some (.iload_n 1, 1)) rfl ?_
        refine Fr.iconst (by decide +kernel : zi 227 50 = some (.iconst 4, 1)) (by decide) ?_
        refine Fr.isub (by decide +kernel : zi 227 51 = some (.isub, 1)) ?_
        refine Fr.callI (y2 := 135) (na := 2) (as := [rf 73, it (zw (v1 - 4))]) (rest := []) (by decide +kernel : zi 227 52 = some (.invokevirtual 237, 3)) rfl (by decide +kernel) (by decide +kernel) rfl rfl (zok_V rfl (by decide) (by decide +kernel) (by decide +kernel) (zrecv_c (c := 72) (by decide) (by decide +kernel)) rfl (Nat.le_of_ble_eq_true rfl)) h (fun r6 s5 h => ?_)
        refine Fr.if0 (q := 61) (by decide +kernel : zi 227 55 = some (.ifCond .ne 6, 3)) (by decide +kernel) (fun g9 => ?_) (fun g9 => ?_)
        · have h := h.1 g9
          refine Fr.ildn (by decide +kernel : zi 227 61 = some (.iload_n 2, 1)) rfl ?_
          refine Fr.bipush (by decide +kernel : zi 227 62 = some (.bipush 6, 2)) (by decide) ?_
          refine Fr.if2 (q := 88) (by decide +kernel : zi 227 64 = some (.if_icmp .ge 24, 3)) (by decide +kernel) (fun g9 => ?_) (fun g9 => ?_)
          · have h := h.1 g9
            refine Fr.bipush (by decide +kernel : zi 227 88 = some (.bipush (-13), 2)) (by decide) ?_
            exact Fr.retI (by decide +kernel : zi 227 90 = some (.ireturn, 1)) (by decide +kernel) h
          · have h := h.2 g9
            refine Fr.aldn (c := 73) (by decide +kernel : zi 227 67 = some (.aload_n 0, 1)) rfl ⟨by omega, by omega⟩ ?_
            refine Fr.gR (c := 72) (c2 := 75) (ci := 8) (k := 4) 4 (by decide +kernel : zi 227 68 = some (.getfield 13, 3)) (by decide +kernel) (by decide +kernel) (by decide +kernel) (by decide) rfl (fun q => q (72, 4, 75) (by decide +kernel)) ?_
            refine Fr.ildn (by decide +kernel : zi 227 71 = some (.iload_n 1, 1)) rfl ?_
            refine Fr.iconst (by decide +kernel : zi 227 72 = some (.iconst 4, 1)) (by decide) ?_
            refine Fr.isub (by decide +kernel : zi 227 73 = some (.isub, 1)) ?_
            obtain ⟨⟨g0, g1⟩, h⟩ := h
            refine Fr.iald (c := 74) (N := 7) (by decide +kernel : zi 227 74 = some (.iaload, 1)) (by decide +kernel) (by decide) g0 g1 ?_
            refine Fr.ildn (by decide +kernel : zi 227 75 = some (.iload_n 2, 1)) rfl ?_
            refine Fr.callI (y2 := 226) (na := 2) (as := [it (s5 74 (zw (v1 - 4))), it v2]) (rest := []) (by decide +kernel : zi 227 76 = some (.invokestatic 373, 3)) rfl (by decide +kernel) (by decide +kernel) rfl rfl (zok_S rfl (by decide) (by decide +kernel) rfl (Nat.le_of_ble_eq_true rfl)) h (fun r8 s7 h => ?_)
            refine Fr.if0 (q := 88) (by decide +kernel : zi 227 79 = some (.ifCond .eq 9, 3)) (by decide +kernel) (fun g9 => ?_) (fun g9 => ?_)
            · have h := h.1 g9
              refine Fr.bipush (by decide +kernel : zi 227 88 = some (.bipush (-13), 2)) (by decide) ?_
              exact Fr.retI (by decide +kernel : zi 227 90 = some (.ireturn, 1)) (by decide +kernel) h
            · have h := h.2 g9
              refine Fr.ildn (by decide +kernel : zi 227 82 = some (.iload_n 1, 1)) rfl ?_
              refine Fr.iconst (by decide +kernel : zi 227 83 = some (.iconst 4, 1)) (by decide) ?_
              refine Fr.isub (by decide +kernel : zi 227 84 = some (.isub, 1)) ?_
              refine Fr.goto (q := 90) (by decide +kernel : zi 227 85 = some (.goto 5, 3)) (by decide +kernel) ?_
              exact Fr.retI (by decide +kernel : zi 227 90 = some (.ireturn, 1)) (by decide +kernel) h
        · have h := h.2 g9
          refine Fr.bipush (by decide +kernel : zi 227 58 = some (.bipush (-11), 2)) (by decide) ?_
          exact Fr.retI (by decide +kernel : zi 227 60 = some (.ireturn, 1)) (by decide +kernel) h
      · have h := h.2 g9
        refine Fr.ildn (by decide +kernel : zi 227 31 = some (.iload_n 2, 1)) rfl ?_
        refine Fr.bipush (by decide +kernel : zi 227 32 = some (.bipush 6, 2)) (by decide) ?_
        refine Fr.if2 (q := 45) (by decide +kernel : zi 227 34 = some (.if_icmp .ne 11, 3)) (by decide +kernel) (fun g9 => ?_) (fun g9 => ?_)
        · have h := h.1 g9
          refine Fr.bipush (by decide +kernel : zi 227 45 = some (.bipush (-13), 2)) (by decide) ?_
          exact Fr.retI (by decide +kernel : zi 227 47 = some (.ireturn, 1)) (by decide +kernel) h
        · have h := h.2 g9
          refine Fr.aldn (c := 73) (by decide +kernel : zi 227 37 = some (.aload_n 0, 1)) rfl ⟨by omega, by omega⟩ ?_
          refine Fr.ildn (by decide +kernel : zi 227 38 = some (.iload_n 1, 1)) rfl ?_
          refine Fr.callI (y2 := 138) (na := 2) (as := [rf 73, it v1]) (rest := []) (by decide +kernel : zi 227 39 = some (.invokevirtual 132, 3)) rfl (by decide +kernel) (by decide +kernel) rfl rfl (zok_V rfl (by decide) (by decide +kernel) (by decide +kernel) (zrecv_c (c := 72) (by decide) (by decide +kernel)) rfl (Nat.le_of_ble_eq_true rfl)) h (fun r10 s9 h => ?_)
          refine Fr.goto (q := 47) (by decide +kernel : zi 227 42 = some (.goto 5, 3)) (by decide +kernel) ?_
          exact Fr.retI (by decide +kernel : zi 227 47 = some (.ireturn, 1)) (by decide +kernel) h
    · have h := h.2 g9
      refine Fr.bipush (by decide +kernel : zi 227 23 = some (.bipush (-12), 2)) (by decide) ?_
      exact Fr.retI (by decide +kernel : zi 227 25 = some (.ireturn, 1)) (by decide +kernel) h
  · have h := h.2 g9
    refine Fr.bipush (by decide +kernel : zi 227 10 = some (.bipush (-2), 2)) (by decide) ?_
    exact Fr.retI (by decide +kernel : zi 227 12 = some (.ireturn, 1)) (by decide +kernel) h
theorem e227 {xs : Nat → Int} {L : Nat} {d : Nat} {v1 : Int} {v2 : Int} {s : Pl} {Q : Option AV → Pl → Prop} (hd : 1 ≤ d) (k : Fr xs L T0 106 (d - 1) 227 0 [some (rf 73), some (it v1), some (it v2)] [] s Q) : Ev xs L T0 106 d 227 [rf 73, it v1, it v2] s Q := Ev.of (by decide) _ rfl hd k
