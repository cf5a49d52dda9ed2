-- 67 X5_become
theorem f67_0 {xs : Nat → Int} {L : Nat} {d : Nat} {t0 : Nat} {v1 : Int} {v2 : Int} {s : Pl} {P : Pl → Prop} (ht0 : t0 < 4) (h : ((¬ v1 = (-1) → Fr xs L T0 106 d 67 16 [some (rf (45 + 2 * t0 + 1)), some (it v1), some (it v2)] [it v2, rf (45 + 2 * t0 + 1)] (zup s (45 + 2 * t0) 0 v1) (qv P)) ∧ (¬ (¬ v1 = (-1)) → Fr xs L T0 106 d 67 16 [some (rf (45 + 2 * t0 + 1)), some (it v1), some (it v2)] [it 0, rf (45 + 2 * t0 + 1)] (zup s (45 + 2 * t0) 0 v1) (qv P)))) : Fr xs L T0 106 d 67 0 [some (rf (45 + 2 * t0 + 1)), some (it v1), some (it v2)] [] s (qv P) := by
  refine Fr.aldn (c := (45 + 2 * t0 + 1)) (by decide +kernel : zi 67 0 = some (.aload_n 0, 1)) rfl ⟨by omega, by omega⟩ ?_
  refine Fr.ildn (by decide +kernel : zi 67 1 = some (.iload_n 1, 1)) rfl ?_
  refine Fr.pI (c := (45 + 2 * t0)) (ci := 5) (k := 0) 0 (by decide +kernel : zi 67 2 = some (.putfield 9, 3)) (by decide +kernel) (by decide +kernel) (by rw [(zsheet_sh _ ht0).1]) (by omega) rfl ?_
  refine Fr.aldn (c := (45 + 2 * t0 + 1)) (by decide +kernel : zi 67 5 = some (.aload_n 0, 1)) rfl ⟨by omega, by omega⟩ ?_
  refine Fr.ildn (by decide +kernel : zi 67 6 = some (.iload_n 1, 1)) rfl ?_
  refine Fr.iconst (by decide +kernel : zi 67 7 = some (.iconst (-1), 1)) (by decide) ?_
  refine Fr.if2 (q := 15) (by decide +kernel : zi 67 8 = some (.if_icmp .ne 7, 3)) (by decide +kernel) (fun g9 => ?_) (fun g9 => ?_)
  · have h := h.1 g9
    refine Fr.ildn (by decide +kernel : zi 67 15 = some (.iload_n 2, 1)) rfl ?_
    exact h
  · have h := h.2 g9
    refine Fr.iconst (by decide +kernel : zi 67 11 = some (.iconst 0, 1)) (by decide) ?_
    refine Fr.goto (q := 16) (by decide +kernel : zi 67 12 = some (.goto 4, 3)) (by decide +kernel) ?_
    exact h
theorem e67 {xs : Nat → Int} {L : Nat} {d : Nat} {t0 : Nat} {v1 : Int} {v2 : Int} {s : Pl} {Q : Option AV → Pl → Prop} (hd : 1 ≤ d) (k : Fr xs L T0 106 (d - 1) 67 0 [some (rf (45 + 2 * t0 + 1)), some (it v1), some (it v2)] [] s Q) : Ev xs L T0 106 d 67 [rf (45 + 2 * t0 + 1), it v1, it v2] s Q := Ev.of (by decide) _ rfl hd k
theorem f67_16 {xs : Nat → Int} {L : Nat} {d : Nat} {t0 : Nat} {v1 : Int} {v2 : Int} {vs0 : Int} {ts1 : Nat} {s : Pl} {P : Pl → Prop} (ht0 : t0 < 4) (hts1 : ts1 < 4) (h : Ev xs L T0 106 d 238 [rf (46 + 2 * t0 + 1), it 0] (zup s (45 + 2 * ts1) 1 vs0) (qv fun s1 => P s1)) : Fr xs L T0 106 d 67 16 [some (rf (45 + 2 * t0 + 1)), some (it v1), some (it v2)] [it vs0, rf (45 + 2 * ts1 + 1)] s (qv P) := by
  refine Fr.pI (c := (45 + 2 * ts1)) (ci := 5) (k := 1) 1 (by decide +kernel : zi 67 16 = some (.putfield 19, 3)) (by decide +kernel) (by decide +kernel) (by rw [(zsheet_sh _ hts1).1]) (by omega) rfl ?_
  refine Fr.aldn (c := (45 + 2 * t0 + 1)) (by decide +kernel : zi 67 19 = some (.aload_n 0, 1)) rfl ⟨by omega, by omega⟩ ?_
  refine Fr.gR (c := (45 + 2 * t0)) (c2 := (46 + 2 * t0 + 1)) (ci := 5) (k := 2) 2 (by decide +kernel : zi 67 20 = some (.getfield 15, 3)) (by decide +kernel) (by decide +kernel) (by rw [(zsheet_sh _ ht0).1]) (by omega) rfl (fun q => q _ (zsheet_T _ ht0).1) ?_
  refine Fr.iconst (by decide +kernel : zi 67 23 = some (.iconst 0, 1)) (by decide) ?_
  refine Fr.callV (y2 := 238) (na := 2) (as := [rf (46 + 2 * t0 + 1), it 0]) (rest := []) (by decide +kernel : zi 67 24 = some (.invokestatic 22, 3)) rfl (by decide +kernel) (by decide +kernel) rfl rfl (zok_S rfl (by decide) (by decide +kernel) rfl (Nat.le_of_ble_eq_true rfl)) h (fun s1 h => ?_)
  exact Fr.retV (by decide +kernel : zi 67 27 = some (.return_, 1)) (by decide +kernel) h
-- 68 X5_has
theorem f68_0 {xs : Nat → Int} {L : Nat} {d : Nat} {t0 : Nat} {v1 : Int} {s : Pl} {P : Int → Pl → Prop} (ht0 : t0 < 4) (h : ((v1 < 0 → P 0 s) ∧ (¬ (v1 < 0) → ((s (45 + 2 * t0) 1 ≤ v1 → P 0 s) ∧ (¬ (s (45 + 2 * t0) 1 ≤ v1) → ((40 ≤ v1 → P 0 s) ∧ (¬ (40 ≤ v1) → P 1 s))))))) : Fr xs L T0 106 d 68 0 [some (rf (45 + 2 * t0 + 1)), some (it v1)] [] s (qi P) := by
  refine Fr.ildn (by decide +kernel : zi 68 0 = some (.iload_n 1, 1)) rfl ?_
  refine Fr.if0 (q := 25) (by decide +kernel : zi 68 1 = some (.ifCond .lt 24, 3)) (by decide +kernel) (fun g9 => ?_) (fun g9 => ?_)
  · have h := h.1 g9
    refine Fr.iconst (by decide +kernel : zi 68 25 = some (.iconst 0, 1)) (by decide) ?_
    exact Fr.retZ (by decide +kernel : zi 68 26 = some (.ireturn, 1)) (by decide +kernel) (by decide) h
  · have h := h.2 g9
    refine Fr.ildn (by decide +kernel : zi 68 4 = some (.iload_n 1, 1)) rfl ?_
    refine Fr.aldn (c := (45 + 2 * t0 + 1)) (by decide +kernel : zi 68 5 = some (.aload_n 0, 1)) rfl ⟨by omega, by omega⟩ ?_
    refine Fr.gI (c := (45 + 2 * t0)) (ci := 5) (k := 1) (t := 0) 1 (by decide +kernel : zi 68 6 = some (.getfield 19, 3)) (by decide +kernel) (by decide +kernel) (by rw [(zsheet_sh _ ht0).1]) (by omega) rfl ?_
    refine Fr.if2 (q := 25) (by decide +kernel : zi 68 9 = some (.if_icmp .ge 16, 3)) (by decide +kernel) (fun g9 => ?_) (fun g9 => ?_)
    · have h := h.1 g9
      refine Fr.iconst (by decide +kernel : zi 68 25 = some (.iconst 0, 1)) (by decide) ?_
      exact Fr.retZ (by decide +kernel : zi 68 26 = some (.ireturn, 1)) (by decide +kernel) (by decide) h
    · have h := h.2 g9
      refine Fr.ildn (by decide +kernel : zi 68 12 = some (.iload_n 1, 1)) rfl ?_
      refine Fr.aldn (c := (45 + 2 * t0 + 1)) (by decide +kernel : zi 68 13 = some (.aload_n 0, 1)) rfl ⟨by omega, by omega⟩ ?_
      refine Fr.gR (c := (45 + 2 * t0)) (c2 := (46 + 2 * t0 + 1)) (ci := 5) (k := 2) 2 (by decide +kernel : zi 68 14 = some (.getfield 15, 3)) (by decide +kernel) (by decide +kernel) (by rw [(zsheet_sh _ ht0).1]) (by omega) rfl (fun q => q _ (zsheet_T _ ht0).1) ?_
      refine Fr.alen (c := (46 + 2 * t0)) (N := 40) (K := 20) (by decide +kernel : zi 68 17 = some (.arraylength, 1)) (zsheet_sh _ ht0).2 (by decide) (by omega) ?_
      refine Fr.if2 (q := 25) (by decide +kernel : zi 68 18 = some (.if_icmp .ge 7, 3)) (by decide +kernel) (fun g9 => ?_) (fun g9 => ?_)
      · have h := h.1 g9
        refine Fr.iconst (by decide +kernel : zi 68 25 = some (.iconst 0, 1)) (by decide) ?_
        exact Fr.retZ (by decide +kernel : zi 68 26 = some (.ireturn, 1)) (by decide +kernel) (by decide) h
      · have h := h.2 g9
        refine Fr.iconst (by decide +kernel : zi 68 21 = some (.iconst 1, 1)) (by decide) ?_
        refine Fr.goto (q := 26) (by decide +kernel : zi 68 22 = some (.goto 4, 3)) (by decide +kernel) ?_
        exact Fr.retZ (by decide +kernel : zi 68 26 = some (.ireturn, 1)) (by decide +kernel) (by decide) h
theorem e68 {xs : Nat → Int} {L : Nat} {d : Nat} {t0 : Nat} {v1 : Int} {s : Pl} {Q : Option AV → Pl → Prop} (hd : 1 ≤ d) (k : Fr xs L T0 106 (d - 1) 68 0 [some (rf (45 + 2 * t0 + 1)), some (it v1)] [] s Q) : Ev xs L T0 106 d 68 [rf (45 + 2 * t0 + 1), it v1] s Q := Ev.of (by decide) _ rfl hd k
-- 69 X5_hasRun
theorem f69_0 {xs : Nat → Int} {L : Nat} {d : Nat} {t0 : Nat} {v1 : Int} {v2 : Int} {s : Pl} {P : Int → Pl → Prop} (ht0 : t0 < 4) (h : ((v1 < 0 → P 0 s) ∧ (¬ (v1 < 0) → ((v2 < 0 → P 0 s) ∧ (¬ (v2 < 0) → ((s (45 + 2 * t0) 1 < v1 → P 0 s) ∧ (¬ (s (45 + 2 * t0) 1 < v1) → ((zw ((s (45 + 2 * t0) 1) - v1) < v2 → P 0 s) ∧ (¬ (zw ((s (45 + 2 * t0) 1) - v1) < v2) → P 1 s))))))))) : Fr xs L T0 106 d 69 0 [some (rf (45 + 2 * t0 + 1)), some (it v1), some (it v2)] [] s (qi P) := by
  refine Fr.ildn (by decide +kernel : zi 69 0 = some (.iload_n 1, 1)) rfl ?_
  refine Fr.if0 (q := 30) (by decide +kernel : zi 69 1 = some (.ifCond .lt 29, 3)) (by decide +kernel) (fun g9 => ?_) (fun g9 => ?_)
  · have h := h.1 g9
    refine Fr.iconst (by decide +kernel : zi 69 30 = some (.iconst 0, 1)) (by decide) ?_
    exact Fr.retZ (by decide +kernel : zi 69 31 = some (.ireturn, 1)) (by decide +kernel) (by decide) h
  · have h := h.2 g9
    refine Fr.ildn (by decide +kernel : zi 69 4 = some (.iload_n 2, 1)) rfl ?_
    refine Fr.if0 (q := 30) (by decide +kernel : zi 69 5 = some (.ifCond .lt 25, 3)) (by decide +kernel) (fun g9 => ?_) (fun g9 => ?_)
    · have h := h.1 g9
      refine Fr.iconst (by decide +kernel : zi 69 30 = some (.iconst 0, 1)) (by decide) ?_
      exact Fr.retZ (by decide +kernel : zi 69 31 = some (.ireturn, 1)) (by decide +kernel) (by decide) h
    · have h := h.2 g9
      refine Fr.ildn (by decide +kernel : zi 69 8 = some (.iload_n 1, 1)) rfl ?_
      refine Fr.aldn (c := (45 + 2 * t0 + 1)) (by decide +kernel : zi 69 9 = some (.aload_n 0, 1)) rfl ⟨by omega, by omega⟩ ?_
      refine Fr.gI (c := (45 + 2 * t0)) (ci := 5) (k := 1) (t := 0) 1 (by decide +kernel : zi 69 10 = some (.getfield 19, 3)) (by decide +kernel) (by decide +kernel) (by rw [(zsheet_sh _ ht0).1]) (by omega) rfl ?_
      refine Fr.if2 (q := 30) (by decide +kernel : zi 69 13 = some (.if_icmp .gt 17, 3)) (by decide +kernel) (fun g9 => ?_) (fun g9 => ?_)
      · have h := h.1 g9
        refine Fr.iconst (by decide +kernel : zi 69 30 = some (.iconst 0, 1)) (by decide) ?_
        exact Fr.retZ (by decide +kernel : zi 69 31 = some (.ireturn, 1)) (by decide +kernel) (by decide) h
      · have h := h.2 g9
        refine Fr.ildn (by decide +kernel : zi 69 16 = some (.iload_n 2, 1)) rfl ?_
        refine Fr.aldn (c := (45 + 2 * t0 + 1)) (by decide +kernel : zi 69 17 = some (.aload_n 0, 1)) rfl ⟨by omega, by omega⟩ ?_
        refine Fr.gI (c := (45 + 2 * t0)) (ci := 5) (k := 1) (t := 0) 1 (by decide +kernel : zi 69 18 = some (.getfield 19, 3)) (by decide +kernel) (by decide +kernel) (by rw [(zsheet_sh _ ht0).1]) (by omega) rfl ?_
        refine Fr.ildn (by decide +kernel : zi 69 21 = some (.iload_n 1, 1)) rfl ?_
        refine Fr.isub (by decide +kernel : zi 69 22 = some (.isub, 1)) ?_
        refine Fr.if2 (q := 30) (by decide +kernel : zi 69 23 = some (.if_icmp .gt 7, 3)) (by decide +kernel) (fun g9 => ?_) (fun g9 => ?_)
        · have h := h.1 g9
          refine Fr.iconst (by decide +kernel : zi 69 30 = some (.iconst 0, 1)) (by decide) ?_
          exact Fr.retZ (by decide +kernel : zi 69 31 = some (.ireturn, 1)) (by decide +kernel) (by decide) h
        · have h := h.2 g9
          refine Fr.iconst (by decide +kernel : zi 69 26 = some (.iconst 1, 1)) (by decide) ?_
          refine Fr.goto (q := 31) (by decide +kernel : zi 69 27 = some (.goto 4, 3)) (by decide +kernel) ?_
          exact Fr.retZ (by decide +kernel : zi 69 31 = some (.ireturn, 1)) (by decide +kernel) (by decide) h
theorem e69 {xs : Nat → Int} {L : Nat} {d : Nat} {t0 : Nat} {v1 : Int} {v2 : Int} {s : Pl} {Q : Option AV → Pl → Prop} (hd : 1 ≤ d) (k : Fr xs L T0 106 (d - 1) 69 0 [some (rf (45 + 2 * t0 + 1)), some (it v1), some (it v2)] [] s Q) : Ev xs L T0 106 d 69 [rf (45 + 2 * t0 + 1), it v1, it v2] s Q := Ev.of (by decide) _ rfl hd k
-- 70 X5_read
theorem f70_0 {xs : Nat → Int} {L : Nat} {d : Nat} {t0 : Nat} {v1 : Int} {s : Pl} {P : Int → Pl → Prop} (ht0 : t0 < 4) (h : Ev xs L T0 106 d 68 [rf (45 + 2 * t0 + 1), it v1] s (qi fun r2 s1 => ((r2 = 0 → P 0 s1) ∧ (¬ (r2 = 0) → (0 ≤ v1 ∧ v1 < 40) ∧ P (s1 (46 + 2 * t0) v1) s1)))) : Fr xs L T0 106 d 70 0 [some (rf (45 + 2 * t0 + 1)), some (it v1)] [] s (qi P) := by
  refine Fr.aldn (c := (45 + 2 * t0 + 1)) (by decide +kernel : zi 70 0 = some (.aload_n 0, 1)) rfl ⟨by omega, by omega⟩ ?_
  refine Fr.ildn (by decide +kernel : zi 70 1 = some (.iload_n 1, 1)) rfl ?_
  refine Fr.callI (y2 := 68) (na := 2) (as := [rf (45 + 2 * t0 + 1), it v1]) (rest := []) (by decide +kernel : zi 70 2 = some (.invokevirtual 28, 3)) rfl (by decide +kernel) (by decide +kernel) rfl rfl (zok_V rfl (by decide) (by decide +kernel) (by decide +kernel) (zrecv_c (c := (45 + 2 * t0)) (by omega) (by rw [(zsheet_sh _ ht0).1]; decide +kernel)) rfl (Nat.le_of_ble_eq_true rfl)) h (fun r2 s1 h => ?_)
  refine Fr.if0 (q := 17) (by decide +kernel : zi 70 5 = some (.ifCond .eq 12, 3)) (by decide +kernel) (fun g9 => ?_) (fun g9 => ?_)
  · have h := h.1 g9
    refine Fr.iconst (by decide +kernel : zi 70 17 = some (.iconst 0, 1)) (by decide) ?_
    exact Fr.retI (by decide +kernel : zi 70 18 = some (.ireturn, 1)) (by decide +kernel) h
  · have h := h.2 g9
    refine Fr.aldn (c := (45 + 2 * t0 + 1)) (by decide +kernel : zi 70 8 = some (.aload_n 0, 1)) rfl ⟨by omega, by omega⟩ ?_
    refine Fr.gR (c := (45 + 2 * t0)) (c2 := (46 + 2 * t0 + 1)) (ci := 5) (k := 2) 2 (by decide +kernel : zi 70 9 = some (.getfield 15, 3)) (by decide +kernel) (by decide +kernel) (by rw [(zsheet_sh _ ht0).1]) (by omega) rfl (fun q => q _ (zsheet_T _ ht0).1) ?_
    refine Fr.ildn (by decide +kernel : zi 70 12 = some (.iload_n 1, 1)) rfl ?_
    obtain ⟨⟨g0, g1⟩, h⟩ := h
    refine Fr.iald (c := (46 + 2 * t0)) (N := 40) (by decide +kernel : zi 70 13 = some (.iaload, 1)) (zsheet_sh _ ht0).2 (by omega) g0 g1 ?_
    refine Fr.goto (q := 18) (by decide +kernel : zi 70 14 = some (.goto 4, 3)) (by decide +kernel) ?_
    exact Fr.retI (by decide +kernel : zi 70 18 = some (.ireturn, 1)) (by decide +kernel) h
theorem e70 {xs : Nat → Int} {L : Nat} {d : Nat} {t0 : Nat} {v1 : Int} {s : Pl} {Q : Option AV → Pl → Prop} (hd : 1 ≤ d) (k : Fr xs L T0 106 (d - 1) 70 0 [some (rf (45 + 2 * t0 + 1)), some (it v1)] [] s Q) : Ev xs L T0 106 d 70 [rf (45 + 2 * t0 + 1), it v1] s Q := Ev.of (by decide) _ rfl hd k
-- 71 X5_write
theorem f71_0 {xs : Nat → Int} {L : Nat} {d : Nat} {t0 : Nat} {v1 : Int} {v2 : Int} {s : Pl} {P : Pl → Prop} (ht0 : t0 < 4) (h : Ev xs L T0 106 d 68 [rf (45 + 2 * t0 + 1), it v1] s (qi fun r2 s1 => ((r2 = 0 → P s1) ∧ (¬ (r2 = 0) → ((¬ s1 (45 + 2 * t0) 0 = 0 → ((¬ s1 (45 + 2 * t0) 0 = 1 → Fr xs L T0 106 d 71 39 [some (rf (45 + 2 * t0 + 1)), some (it v1), some (it v2)] [it v2, it v1, rf (46 + 2 * t0 + 1)] s1 (qv P)) ∧ (¬ (¬ s1 (45 + 2 * t0) 0 = 1) → Fr xs L T0 106 d 71 39 [some (rf (45 + 2 * t0 + 1)), some (it v1), some (it v2)] [it (zs16 v2), it v1, rf (46 + 2 * t0 + 1)] s1 (qv P)))) ∧ (¬ (¬ s1 (45 + 2 * t0) 0 = 0) → Fr xs L T0 106 d 71 39 [some (rf (45 + 2 * t0 + 1)), some (it v1), some (it v2)] [it (zb8 v2), it v1, rf (46 + 2 * t0 + 1)] s1 (qv P))))))) : Fr xs L T0 106 d 71 0 [some (rf (45 + 2 * t0 + 1)), some (it v1), some (it v2)] [] s (qv P) := by
  refine Fr.aldn (c := (45 + 2 * t0 + 1)) (by decide +kernel : zi 71 0 = some (.aload_n 0, 1)) rfl ⟨by omega, by omega⟩ ?_
  refine Fr.ildn (by decide +kernel : zi 71 1 = some (.iload_n 1, 1)) rfl ?_
  refine Fr.callI (y2 := 68) (na := 2) (as := [rf (45 + 2 * t0 + 1), it v1]) (rest := []) (by decide +kernel : zi 71 2 = some (.invokevirtual 28, 3)) rfl (by decide +kernel) (by decide +kernel) rfl rfl (zok_V rfl (by decide) (by decide +kernel) (by decide +kernel) (zrecv_c (c := (45 + 2 * t0)) (by omega) (by rw [(zsheet_sh _ ht0).1]; decide +kernel)) rfl (Nat.le_of_ble_eq_true rfl)) h (fun r2 s1 h => ?_)
  refine Fr.if0 (q := 40) (by decide +kernel : zi 71 5 = some (.ifCond .eq 35, 3)) (by decide +kernel) (fun g9 => ?_) (fun g9 => ?_)
  · have h := h.1 g9
    exact Fr.retV (by decide +kernel : zi 71 40 = some (.return_, 1)) (by decide +kernel) h
  · have h := h.2 g9
    refine Fr.aldn (c := (45 + 2 * t0 + 1)) (by decide +kernel : zi 71 8 = some (.aload_n 0, 1)) rfl ⟨by omega, by omega⟩ ?_
    refine Fr.gR (c := (45 + 2 * t0)) (c2 := (46 + 2 * t0 + 1)) (ci := 5) (k := 2) 2 (by decide +kernel : zi 71 9 = some (.getfield 15, 3)) (by decide +kernel) (by decide +kernel) (by rw [(zsheet_sh _ ht0).1]) (by omega) rfl (fun q => q _ (zsheet_T _ ht0).1) ?_
    refine Fr.ildn (by decide +kernel : zi 71 12 = some (.iload_n 1, 1)) rfl ?_
    refine Fr.aldn (c := (45 + 2 * t0 + 1)) (by decide +kernel : zi 71 13 = some (.aload_n 0, 1)) rfl ⟨by omega, by omega⟩ ?_
    refine Fr.gI (c := (45 + 2 * t0)) (ci := 5) (k := 0) (t := 0) 0 (by decide +kernel : zi 71 14 = some (.getfield 9, 3)) (by decide +kernel) (by decide +kernel) (by rw [(zsheet_sh _ ht0).1]) (by omega) rfl ?_
    refine Fr.if0 (q := 25) (by decide +kernel : zi 71 17 = some (.ifCond .ne 8, 3)) (by decide +kernel) (fun g9 => ?_) (fun g9 => ?_)
    · have h := h.1 g9
      refine Fr.aldn (c := (45 + 2 * t0 + 1)) (by decide +kernel : zi 71 25 = some (.aload_n 0, 1)) rfl ⟨by omega, by omega⟩ ?_
      refine Fr.gI (c := (45 + 2 * t0)) (ci := 5) (k := 0) (t := 0) 0 (by decide +kernel : zi 71 26 = some (.getfield 9, 3)) (by decide +kernel) (by decide +kernel) (by rw [(zsheet_sh _ ht0).1]) (by omega) rfl ?_
      refine Fr.iconst (by decide +kernel : zi 71 29 = some (.iconst 1, 1)) (by decide) ?_
      refine Fr.if2 (q := 38) (by decide +kernel : zi 71 30 = some (.if_icmp .ne 8, 3)) (by decide +kernel) (fun g9 => ?_) (fun g9 => ?_)
      · have h := h.1 g9
        refine Fr.ildn (by decide +kernel : zi 71 38 = some (.iload_n 2, 1)) rfl ?_
        exact h
      · have h := h.2 g9
        refine Fr.ildn (by decide +kernel : zi 71 33 = some (.iload_n 2, 1)) rfl ?_
        refine Fr.i2s (by decide +kernel : zi 71 34 = some (.i2s, 1)) ?_
        refine Fr.goto (q := 39) (by decide +kernel : zi 71 35 = some (.goto 4, 3)) (by decide +kernel) ?_
        exact h
    · have h := h.2 g9
      refine Fr.ildn (by decide +kernel : zi 71 20 = some (.iload_n 2, 1)) rfl ?_
      refine Fr.i2b (by decide +kernel : zi 71 21 = some (.i2b, 1)) ?_
      refine Fr.goto (q := 39) (by decide +kernel : zi 71 22 = some (.goto 17, 3)) (by decide +kernel) ?_
      exact h
theorem e71 {xs : Nat → Int} {L : Nat} {d : Nat} {t0 : Nat} {v1 : Int} {v2 : Int} {s : Pl} {Q : Option AV → Pl → Prop} (hd : 1 ≤ d) (k : Fr xs L T0 106 (d - 1) 71 0 [some (rf (45 + 2 * t0 + 1)), some (it v1), some (it v2)] [] s Q) : Ev xs L T0 106 d 71 [rf (45 + 2 * t0 + 1), it v1, it v2] s Q := Ev.of (by decide) _ rfl hd k
theorem f71_39 {xs : Nat → Int} {L : Nat} {d : Nat} {t0 : Nat} {v1 : Int} {v2 : Int} {vs0 : Int} {vs1 : Int} {ts2 : Nat} {s : Pl} {P : Pl → Prop} (ht0 : t0 < 4) (hts2 : ts2 < 4) (h : (0 ≤ vs1 ∧ vs1 < 40) ∧ P (zup s (46 + 2 * ts2) vs1 vs0)) : Fr xs L T0 106 d 71 39 [some (rf (45 + 2 * t0 + 1)), some (it v1), some (it v2)] [it vs0, it vs1, rf (46 + 2 * ts2 + 1)] s (qv P) := by
  obtain ⟨⟨g0, g1⟩, h⟩ := h
  refine Fr.iast (c := (46 + 2 * ts2)) (N := 40) (by decide +kernel : zi 71 39 = some (.iastore, 1)) (zsheet_sh _ hts2).2 (by omega) g0 g1 ?_
  exact Fr.retV (by decide +kernel : zi 71 40 = some (.return_, 1)) (by decide +kernel) h
-- 73 X6_add
theorem f73_0 {xs : Nat → Int} {L : Nat} {d : Nat} {v1 : Int} {v2 : Int} {v3 : Int} {s : Pl} {P : Pl → Prop} (h : ((s 68 4 < 0 → P s) ∧ (¬ (s 68 4 < 0) → ((16 ≤ s 68 4 → P s) ∧ (¬ (16 ≤ s 68 4) → (0 ≤ s 68 4 ∧ s 68 4 < 16) ∧ (0 ≤ (zup s 69 (s 68 4) v1) 68 4 ∧ (zup s 69 (s 68 4) v1) 68 4 < 16) ∧ (0 ≤ (zup (zup s 69 (s 68 4) v1) 70 ((zup s 69 (s 68 4) v1) 68 4) v2) 68 4 ∧ (zup (zup s 69 (s 68 4) v1) 70 ((zup s 69 (s 68 4) v1) 68 4) v2) 68 4 < 16) ∧ P (zup (zup (zup (zup s 69 (s 68 4) v1) 70 ((zup s 69 (s 68 4) v1) 68 4) v2) 71 ((zup (zup s 69 (s 68 4) v1) 70 ((zup s 69 (s 68 4) v1) 68 4) v2) 68 4) v3) 68 4 (zw (((zup (zup (zup s 69 (s 68 4) v1) 70 ((zup s 69 (s 68 4) v1) 68 4) v2) 71 ((zup (zup s 69 (s 68 4) v1) 70 ((zup s 69 (s 68 4) v1) 68 4) v2) 68 4) v3) 68 4) + 1)))))))) : Fr xs L T0 106 d 73 0 [some (rf 69), some (it v1), some (it v2), some (it v3)] [] s (qv P) := by
  refine Fr.aldn (c := 69) (by decide +kernel : zi 73 0 = some (.aload_n 0, 1)) rfl ⟨by omega, by omega⟩ ?_
  refine Fr.gI (c := 68) (ci := 6) (k := 4) (t := 0) 4 (by decide +kernel : zi 73 1 = some (.getfield 25, 3)) (by decide +kernel) (by decide +kernel) (by decide +kernel) (by decide) rfl ?_
  refine Fr.if0 (q := 56) (by decide +kernel : zi 73 4 = some (.ifCond .lt 52, 3)) (by decide +kernel) (fun g9 => ?_) (fun g9 => ?_)
  · have h := h.1 g9
    exact Fr.retV (by decide +kernel : zi 73 56 = some (.return_, 1)) (by decide +kernel) h
  · have h := h.2 g9
    refine Fr.aldn (c := 69) (by decide +kernel : zi 73 7 = some (.aload_n 0, 1)) rfl ⟨by omega, by omega⟩ ?_
    refine Fr.gI (c := 68) (ci := 6) (k := 4) (t := 0) 4 (by decide +kernel : zi 73 8 = some (.getfield 25, 3)) (by decide +kernel) (by decide +kernel) (by decide +kernel) (by decide) rfl ?_
    refine Fr.bipush (by decide +kernel : zi 73 11 = some (.bipush 16, 2)) (by decide) ?_
    refine Fr.if2 (q := 56) (by decide +kernel : zi 73 13 = some (.if_icmp .ge 43, 3)) (by decide +kernel) (fun g9 => ?_) (fun g9 => ?_)
    · have h := h.1 g9
      exact Fr.retV (by decide +kernel : zi 73 56 = some (.return_, 1)) (by decide +kernel) h
    · have h := h.2 g9
      refine Fr.aldn (c := 69) (by decide +kernel : zi 73 16 = some (.aload_n 0, 1)) rfl ⟨by omega, by omega⟩ ?_
      refine Fr.gR (c := 68) (c2 := 70) (ci := 6) (k := 1) 1 (by decide +kernel : zi 73 17 = some (.getfield 9, 3)) (by decide +kernel) (by decide +kernel) (by decide +kernel) (by decide) rfl (fun q => q (68, 1, 70) (by decide +kernel)) ?_
      refine Fr.aldn (c := 69) (by decide +kernel : zi 73 20 = some (.aload_n 0, 1)) rfl ⟨by omega, by omega⟩ ?_
      refine Fr.gI (c := 68) (ci := 6) (k := 4) (t := 0) 4 (by decide +kernel : zi 73 21 = some (.getfield 25, 3)) (by decide +kernel) (by decide +kernel) (by decide +kernel) (by decide) rfl ?_
      refine Fr.ildn (by decide +kernel : zi 73 24 = some (.iload_n 1, 1)) rfl ?_
      obtain ⟨⟨g0, g1⟩, h⟩ := h
      refine Fr.iast (c := 69) (N := 16) (by decide +kernel : zi 73 25 = some (.iastore, 1)) (by decide +kernel) (by decide) g0 g1 ?_
      refine Fr.aldn (c := 69) (by decide +kernel : zi 73 26 = some (.aload_n 0, 1)) rfl ⟨by omega, by omega⟩ ?_
      refine Fr.gR (c := 68) (c2 := 71) (ci := 6) (k := 2) 2 (by decide +kernel : zi 73 27 = some (.getfield 15, 3)) (by decide +kernel) (by decide +kernel) (by decide +kernel) (by decide) rfl (fun q => q (68, 2, 71) (by decide +kernel)) ?_
      refine Fr.aldn (c := 69) (by decide +kernel : zi 73 30 = some (.aload_n 0, 1)) rfl ⟨by omega, by omega⟩ ?_
      refine Fr.gI (c := 68) (ci := 6) (k := 4) (t := 0) 4 (by decide +kernel : zi 73 31 = some (.getfield 25, 3)) (by decide +kernel) (by decide +kernel) (by decide +kernel) (by decide) rfl ?_
      refine Fr.ildn (by decide +kernel : zi 73 34 = some (.iload_n 2, 1)) rfl ?_
      obtain ⟨⟨g0, g1⟩, h⟩ := h
      refine Fr.iast (c := 70) (N := 16) (by decide +kernel : zi 73 35 = some (.iastore, 1)) (by decide +kernel) (by decide) g0 g1 ?_
      refine Fr.aldn (c := 69) (by decide +kernel : zi 73 36 = some (.aload_n 0, 1)) rfl ⟨by omega, by omega⟩ ?_
      refine Fr.gR (c := 68) (c2 := 72) (ci := 6) (k := 3) 3 (by decide +kernel : zi 73 37 = some (.getfield 18, 3)) (by decide +kernel) (by decide +kernel) (by decide +kernel) (by decide) rfl (fun q => q (68, 3, 72) (by decide +kernel)) ?_
      refine Fr.aldn (c := 69) (by decide +kernel : zi 73 40 = some (.aload_n 0, 1)) rfl ⟨by omega, by omega⟩ ?_
      refine Fr.gI (c := 68) (ci := 6) (k := 4) (t := 0) 4 (by decide +kernel : zi 73 41 = some (.getfield 25, 3)) (by decide +kernel) (by decide +kernel) (by decide +kernel) (by decide) rfl ?_
      refine Fr.ildn (by decide +kernel : zi 73 44 = some (.iload_n 3, 1)) rfl ?_
      obtain ⟨⟨g0, g1⟩, h⟩ := h
      refine Fr.iast (c := 71) (N := 16) (by decide +kernel : zi 73 45 = some (.iastore, 1)) (by decide +kernel) (by decide) g0 g1 ?_
      refine Fr.aldn (c := 69) (by decide +kernel : zi 73 46 = some (.aload_n 0, 1)) rfl ⟨by omega, by omega⟩ ?_
      refine Fr.dup (by decide +kernel : zi 73 47 = some (.dup, 1)) rfl ?_
      refine Fr.gI (c := 68) (ci := 6) (k := 4) (t := 0) 4 (by decide +kernel : zi 73 48 = some (.getfield 25, 3)) (by decide +kernel) (by decide +kernel) (by decide +kernel) (by decide) rfl ?_
      refine Fr.iconst (by decide +kernel : zi 73 51 = some (.iconst 1, 1)) (by decide) ?_
      refine Fr.iadd (by decide +kernel : zi 73 52 = some (.iadd, 1)) ?_
      refine Fr.pI (c := 68) (ci := 6) (k := 4) 4 (by decide +kernel : zi 73 53 = some (.putfield 25, 3)) (by decide +kernel) (by decide +kernel) (by decide +kernel) (by decide) rfl ?_
      exact Fr.retV (by decide +kernel : zi 73 56 = some (.return_, 1)) (by decide +kernel) h
theorem e73 {xs : Nat → Int} {L : Nat} {d : Nat} {v1 : Int} {v2 : Int} {v3 : Int} {s : Pl} {Q : Option AV → Pl → Prop} (hd : 1 ≤ d) (k : Fr xs L T0 106 (d - 1) 73 0 [some (rf 69), some (it v1), some (it v2), some (it v3)] [] s Q) : Ev xs L T0 106 d 73 [rf 69, it v1, it v2, it v3] s Q := Ev.of (by decide) _ rfl hd k
-- 74 X6_begin
theorem f74_0 {xs : Nat → Int} {L : Nat} {d : Nat}  {s : Pl} {P : Pl → Prop} (h : Ev xs L T0 106 d 8 [rf 2] s (qi fun r2 s1 => Ev xs L T0 106 d 42 [rf 58, it ((zup (zup (zup (zup (zup s1 68 5 r2) 68 6 0) 68 7 (-1)) 68 8 0) 68 9 0) 68 5)] (zup (zup (zup (zup (zup s1 68 5 r2) 68 6 0) 68 7 (-1)) 68 8 0) 68 9 0) (qv fun s3 => P s3))) : Fr xs L T0 106 d 74 0 [some (rf 69)] [] s (qv P) := by
  refine Fr.aldn (c := 69) (by decide +kernel : zi 74 0 = some (.aload_n 0, 1)) rfl ⟨by omega, by omega⟩ ?_
  refine Fr.aldn (c := 69) (by decide +kernel : zi 74 1 = some (.aload_n 0, 1)) rfl ⟨by omega, by omega⟩ ?_
  refine Fr.gR (c := 68) (c2 := 58) (ci := 6) (k := 0) 0 (by decide +kernel : zi 74 2 = some (.getfield 21, 3)) (by decide +kernel) (by decide +kernel) (by decide +kernel) (by decide) rfl (fun q => q (68, 0, 58) (by decide +kernel)) ?_
  refine Fr.gR (c := 57) (c2 := 2) (ci := 3) (k := 0) 0 (by decide +kernel : zi 74 5 = some (.getfield 29, 3)) (by decide +kernel) (by decide +kernel) (by decide +kernel) (by decide) rfl (fun q => q (57, 0, 2) (by decide +kernel)) ?_
  refine Fr.callI (y2 := 8) (na := 1) (as := [rf 2]) (rest := [rf 69]) (by decide +kernel : zi 74 8 = some (.invokevirtual 35, 3)) rfl (by decide +kernel) (by decide +kernel) rfl rfl (zok_V rfl (by decide) (by decide +kernel) (by decide +kernel) (zrecv_c (c := 1) (by decide) (by decide +kernel)) rfl (Nat.le_of_ble_eq_true rfl)) h (fun r2 s1 h => ?_)
  refine Fr.pI (c := 68) (ci := 6) (k := 5) 5 (by decide +kernel : zi 74 11 = some (.putfield 41, 3)) (by decide +kernel) (by decide +kernel) (by decide +kernel) (by decide) rfl ?_
  refine Fr.aldn (c := 69) (by decide +kernel : zi 74 14 = some (.aload_n 0, 1)) rfl ⟨by omega, by omega⟩ ?_
  refine Fr.iconst (by decide +kernel : zi 74 15 = some (.iconst 0, 1)) (by decide) ?_
  refine Fr.pI (c := 68) (ci := 6) (k := 6) 6 (by decide +kernel : zi 74 16 = some (.putfield 43, 3)) (by decide +kernel) (by decide +kernel) (by decide +kernel) (by decide) rfl ?_
  refine Fr.aldn (c := 69) (by decide +kernel : zi 74 19 = some (.aload_n 0, 1)) rfl ⟨by omega, by omega⟩ ?_
  refine Fr.iconst (by decide +kernel : zi 74 20 = some (.iconst (-1), 1)) (by decide) ?_
  refine Fr.pI (c := 68) (ci := 6) (k := 7) 7 (by decide +kernel : zi 74 21 = some (.putfield 46, 3)) (by decide +kernel) (by decide +kernel) (by decide +kernel) (by decide) rfl ?_
  refine Fr.aldn (c := 69) (by decide +kernel : zi 74 24 = some (.aload_n 0, 1)) rfl ⟨by omega, by omega⟩ ?_
  refine Fr.iconst (by decide +kernel : zi 74 25 = some (.iconst 0, 1)) (by decide) ?_
  refine Fr.pI (c := 68) (ci := 6) (k := 8) 8 (by decide +kernel : zi 74 26 = some (.putfield 49, 3)) (by decide +kernel) (by decide +kernel) (by decide +kernel) (by decide) rfl ?_
  refine Fr.aldn (c := 69) (by decide +kernel : zi 74 29 = some (.aload_n 0, 1)) rfl ⟨by omega, by omega⟩ ?_
  refine Fr.iconst (by decide +kernel : zi 74 30 = some (.iconst 0, 1)) (by decide) ?_
  refine Fr.pI (c := 68) (ci := 6) (k := 9) 9 (by decide +kernel : zi 74 31 = some (.putfield 52, 3)) (by decide +kernel) (by decide +kernel) (by decide +kernel) (by decide) rfl ?_
  refine Fr.aldn (c := 69) (by decide +kernel : zi 74 34 = some (.aload_n 0, 1)) rfl ⟨by omega, by omega⟩ ?_
  refine Fr.gR (c := 68) (c2 := 58) (ci := 6) (k := 0) 0 (by decide +kernel : zi 74 35 = some (.getfield 21, 3)) (by decide +kernel) (by decide +kernel) (by decide +kernel) (by decide) rfl (fun q => q (68, 0, 58) (by decide +kernel)) ?_
  refine Fr.aldn (c := 69) (by decide +kernel : zi 74 38 = some (.aload_n 0, 1)) rfl ⟨by omega, by omega⟩ ?_
  refine Fr.gI (c := 68) (ci := 6) (k := 5) (t := 0) 5 (by decide +kernel : zi 74 39 = some (.getfield 41, 3)) (by decide +kernel) (by decide +kernel) (by decide +kernel) (by decide) rfl ?_
  refine Fr.callV (y2 := 42) (na := 2) (as := [rf 58, it ((zup (zup (zup (zup (zup s1 68 5 r2) 68 6 0) 68 7 (-1)) 68 8 0) 68 9 0) 68 5)]) (rest := []) (by decide +kernel : zi 74 42 = some (.invokevirtual 55, 3)) rfl (by decide +kernel) (by decide +kernel) rfl rfl (zok_V rfl (by decide) (by decide +kernel) (by decide +kernel) (zrecv_c (c := 57) (by decide) (by decide +kernel)) rfl (Nat.le_of_ble_eq_true rfl)) h (fun s3 h => ?_)
  exact Fr.retV (by decide +kernel : zi 74 45 = some (.return_, 1)) (by decide +kernel) h
theorem e74 {xs : Nat → Int} {L : Nat} {d : Nat}  {s : Pl} {Q : Option AV → Pl → Prop} (hd : 1 ≤ d) (k : Fr xs L T0 106 (d - 1) 74 0 [some (rf 69)] [] s Q) : Ev xs L T0 106 d 74 [rf 69] s Q := Ev.of (by decide) _ rfl hd k
-- 75 X6_follow
theorem f75_0 {xs : Nat → Int} {L : Nat} {d : Nat} {v1 : Int} {s : Pl} {P : Pl → Prop} (h : Ev xs L T0 106 d 74 [rf 69] s (qv fun s1 => Fr xs L T0 106 d 75 6 [some (rf 69), some (it v1), some (it 0)] [] s1 (qv P))) : Fr xs L T0 106 d 75 0 [some (rf 69), some (it v1), none] [] s (qv P) := by
  refine Fr.aldn (c := 69) (by decide +kernel : zi 75 0 = some (.aload_n 0, 1)) rfl ⟨by omega, by omega⟩ ?_
  refine Fr.callV (y2 := 74) (na := 1) (as := [rf 69]) (rest := []) (by decide +kernel : zi 75 1 = some (.invokevirtual 59, 3)) rfl (by decide +kernel) (by decide +kernel) rfl rfl (zok_V rfl (by decide) (by decide +kernel) (by decide +kernel) (zrecv_c (c := 68) (by decide) (by decide +kernel)) rfl (Nat.le_of_ble_eq_true rfl)) h (fun s1 h => ?_)
  refine Fr.iconst (by decide +kernel : zi 75 4 = some (.iconst 0, 1)) (by decide) ?_
  refine Fr.istn (lv2 := [some (rf 69), some (it v1), some (it 0)]) (by decide +kernel : zi 75 5 = some (.istore_n 2, 1)) (Nat.le_of_ble_eq_true rfl) rfl ?_
  exact h
theorem e75 {xs : Nat → Int} {L : Nat} {d : Nat} {v1 : Int} {s : Pl} {Q : Option AV → Pl → Prop} (hd : 1 ≤ d) (k : Fr xs L T0 106 (d - 1) 75 0 [some (rf 69), some (it v1), none] [] s Q) : Ev xs L T0 106 d 75 [rf 69, it v1] s Q := Ev.of (by decide) _ rfl hd k
theorem f75_6 {xs : Nat → Int} {L : Nat} {d : Nat} {v1 : Int} {v2 : Int} {s : Pl} {P : Pl → Prop} (h : ((v1 ≤ v2 → P s) ∧ (¬ (v1 ≤ v2) → ((s 68 4 ≤ v2 → P s) ∧ (¬ (s 68 4 ≤ v2) → ((16 ≤ v2 → P s) ∧ (¬ (16 ≤ v2) → (0 ≤ v2 ∧ v2 < 16) ∧ (0 ≤ v2 ∧ v2 < 16) ∧ (0 ≤ v2 ∧ v2 < 16) ∧ Ev xs L T0 106 d 76 [rf 69, it (s 69 v2), it (s 70 v2), it (s 71 v2)] s (qi fun r2 s1 => ((¬ r2 = 0 → Fr xs L T0 106 d 75 62 [some (rf 69), some (it v1), some (it v2)] [] s1 (qv P)) ∧ (¬ (¬ r2 = 0) → ((0 ≤ s1 68 7 → Fr xs L T0 106 d 75 62 [some (rf 69), some (it v1), some (it v2)] [] s1 (qv P)) ∧ (¬ (0 ≤ s1 68 7) → Fr xs L T0 106 d 75 62 [some (rf 69), some (it v1), some (it v2)] [] (zup s1 68 7 v2) (qv P))))))))))))) : Fr xs L T0 106 d 75 6 [some (rf 69), some (it v1), some (it v2)] [] s (qv P) := by
  refine Fr.ildn (by decide +kernel : zi 75 6 = some (.iload_n 2, 1)) rfl ?_
  refine Fr.ildn (by decide +kernel : zi 75 7 = some (.iload_n 1, 1)) rfl ?_
  refine Fr.if2 (q := 72) (by decide +kernel : zi 75 8 = some (.if_icmp .ge 64, 3)) (by decide +kernel) (fun g9 => ?_) (fun g9 => ?_)
  · have h := h.1 g9
    exact Fr.retV (by decide +kernel : zi 75 72 = some (.return_, 1)) (by decide +kernel) h
  · have h := h.2 g9
    refine Fr.ildn (by decide +kernel : zi 75 11 = some (.iload_n 2, 1)) rfl ?_
    refine Fr.aldn (c := 69) (by decide +kernel : zi 75 12 = some (.aload_n 0, 1)) rfl ⟨by omega, by omega⟩ ?_
    refine Fr.gI (c := 68) (ci := 6) (k := 4) (t := 0) 4 (by decide +kernel : zi 75 13 = some (.getfield 25, 3)) (by decide +kernel) (by decide +kernel) (by decide +kernel) (by decide) rfl ?_
    refine Fr.if2 (q := 72) (by decide +kernel : zi 75 16 = some (.if_icmp .ge 56, 3)) (by decide +kernel) (fun g9 => ?_) (fun g9 => ?_)
    · have h := h.1 g9
      exact Fr.retV (by decide +kernel : zi 75 72 = some (.return_, 1)) (by decide +kernel) h
    · have h := h.2 g9
      refine Fr.ildn (by decide +kernel : zi 75 19 = some (.iload_n 2, 1)) rfl ?_
      refine Fr.bipush (by decide +kernel : zi 75 20 = some (.bipush 16, 2)) (by decide) ?_
      refine Fr.if2 (q := 72) (by decide +kernel : zi 75 22 = some (.if_icmp .ge 50, 3)) (by decide +kernel) (fun g9 => ?_) (fun g9 => ?_)
      · have h := h.1 g9
        exact Fr.retV (by decide +kernel : zi 75 72 = some (.return_, 1)) (by decide +kernel) h
      · have h := h.2 g9
        refine Fr.aldn (c := 69) (by decide +kernel : zi 75 25 = some (.aload_n 0, 1)) rfl ⟨by omega, by omega⟩ ?_
        refine Fr.aldn (c := 69) (by decide +kernel : zi 75 26 = some (.aload_n 0, 1)) rfl ⟨by omega, by omega⟩ ?_
        refine Fr.gR (c := 68) (c2 := 70) (ci := 6) (k := 1) 1 (by decide +kernel : zi 75 27 = some (.getfield 9, 3)) (by decide +kernel) (by decide +kernel) (by decide +kernel) (by decide) rfl (fun q => q (68, 1, 70) (by decide +kernel)) ?_
        refine Fr.ildn (by decide +kernel : zi 75 30 = some (.iload_n 2, 1)) rfl ?_
        obtain ⟨⟨g0, g1⟩, h⟩ := h
        refine Fr.iald (c := 69) (N := 16) (by decide +kernel : zi 75 31 = some (.iaload, 1)) (by decide +kernel) (by decide) g0 g1 ?_
        refine Fr.aldn (c := 69) (by decide +kernel : zi 75 32 = some (.aload_n 0, 1)) rfl ⟨by omega, by omega⟩ ?_
        refine Fr.gR (c := 68) (c2 := 71) (ci := 6) (k := 2) 2 (by decide +kernel : zi 75 33 = some (.getfield 15, 3)) (by decide +kernel) (by decide +kernel) (by decide +kernel) (by decide) rfl (fun q => q (68, 2, 71) (by decide +kernel)) ?_
        refine Fr.ildn (by decide +kernel : zi 75 36 = some (.iload_n 2, 1)) rfl ?_
        obtain ⟨⟨g0, g1⟩, h⟩ := h
        refine Fr.iald (c := 70) (N := 16) (by decide +kernel : zi 75 37 = some (.iaload, 1)) (by decide +kernel) (by decide) g0 g1 ?_
        refine Fr.aldn (c := 69) (by decide +kernel : zi 75 38 = some (.aload_n 0, 1)) rfl ⟨by omega, by omega⟩ ?_
        refine Fr.gR (c := 68) (c2 := 72) (ci := 6) (k := 3) 3 (by decide +kernel : zi 75 39 = some (.getfield 18, 3)) (by decide +kernel) (by decide +kernel) (by decide +kernel) (by decide) rfl (fun q => q (68, 3, 72) (by decide +kernel)) ?_
        refine Fr.ildn (by decide +kernel : zi 75 42 = some (.iload_n 2, 1)) rfl ?_
        obtain ⟨⟨g0, g1⟩, h⟩ := h
        refine Fr.iald (c := 71) (N := 16) (by decide +kernel : zi 75 43 = some (.iaload, 1)) (by decide +kernel) (by decide) g0 g1 ?_
        refine Fr.callI (y2 := 76) (na := 4) (as := [rf 69, it (s 69 v2), it (s 70 v2), it (s 71 v2)]) (rest := []) (by decide +kernel : zi 75 44 = some (.invokevirtual 62, 3)) rfl (by decide +kernel) (by decide +kernel) rfl rfl (zok_V rfl (by decide) (by decide +kernel) (by decide +kernel) (zrecv_c (c := 68) (by decide) (by decide +kernel)) rfl (Nat.le_of_ble_eq_true rfl)) h (fun r2 s1 h => ?_)
        refine Fr.if0 (q := 62) (by decide +kernel : zi 75 47 = some (.ifCond .ne 15, 3)) (by decide +kernel) (fun g9 => ?_) (fun g9 => ?_)
        · have h := h.1 g9
          exact h
        · have h := h.2 g9
          refine Fr.aldn (c := 69) (by decide +kernel : zi 75 50 = some (.aload_n 0, 1)) rfl ⟨by omega, by omega⟩ ?_
          refine Fr.gI (c := 68) (ci := 6) (k := 7) (t := 0) 7 (by decide +kernel : zi 75 51 = some (.getfield 46, 3)) (by decide +kernel) (by decide +kernel) (by decide +kernel) (by decide) rfl ?_
          refine Fr.if0 (q := 62) (by decide +kernel : zi 75 54 = some (.ifCond .ge 8, 3)) (by decide +kernel) (fun g9 => ?_) (fun g9 => ?_)
          · have h := h.1 g9
            exact h
          · have h := h.2 g9
            refine Fr.aldn (c := 69) (by decide +kernel : zi 75 57 = some (.aload_n 0, 1)) rfl ⟨by omega, by omega⟩ ?_
            refine Fr.ildn (by decide +kernel : zi 75 58 = some (.iload_n 2, 1)) rfl ?_
            refine Fr.pI (c := 68) (ci := 6) (k := 7) 7 (by decide +kernel : zi 75 59 = some (.putfield 46, 3)) (by decide +kernel) (by decide +kernel) (by decide +kernel) (by decide) rfl ?_
            exact h
theorem f75_62 {xs : Nat → Int} {L : Nat} {d : Nat} {v1 : Int} {v2 : Int} {s : Pl} {P : Pl → Prop} (h : Ev xs L T0 106 d 79 [rf 69] s (qv fun s1 => Fr xs L T0 106 d 75 6 [some (rf 69), some (it v1), some (it (zw (v2 + 1)))] [] s1 (qv P))) : Fr xs L T0 106 d 75 62 [some (rf 69), some (it v1), some (it v2)] [] s (qv P) := by
  refine Fr.aldn (c := 69) (by decide +kernel : zi 75 62 = some (.aload_n 0, 1)) rfl ⟨by omega, by omega⟩ ?_
  refine Fr.callV (y2 := 79) (na := 1) (as := [rf 69]) (rest := []) (by decide +kernel : zi 75 63 = some (.invokevirtual 66, 3)) rfl (by decide +kernel) (by decide +kernel) rfl rfl (zok_V rfl (by decide) (by decide +kernel) (by decide +kernel) (zrecv_c (c := 68) (by decide) (by decide +kernel)) rfl (Nat.le_of_ble_eq_true rfl)) h (fun s1 h => ?_)
  refine Fr.iinc (lv2 := [some (rf 69), some (it v1), some (it (zw (v2 + 1)))]) (by decide +kernel : zi 75 66 = some (.iinc 2 1, 3)) (Nat.le_of_ble_eq_true rfl) rfl rfl ?_
  refine Fr.goto (q := 6) (by decide +kernel : zi 75 69 = some (.goto (-63), 3)) (by decide +kernel) ?_
  exact h
-- 76 X6_done
theorem f76_0 {xs : Nat → Int} {L : Nat} {d : Nat} {v1 : Int} {v2 : Int} {v3 : Int} {s : Pl} {P : Int → Pl → Prop} (h : ((¬ v1 = 2 → ((¬ v1 = 0 → Ev xs L T0 106 d 47 [rf 58, it v2, it v3] s (qi fun r2 s1 => ((r2 = 0 → ((r2 = 0 ∨ r2 = 1) ∧ P r2 s1)) ∧ (¬ (r2 = 0) → Ev xs L T0 106 d 78 [rf 69, it v2, it v3] s1 (qv fun s3 => ((r2 = 0 ∨ r2 = 1) ∧ P r2 s3)))))) ∧ (¬ (¬ v1 = 0) → ((v2 = s 57 11 → Fr xs L T0 106 d 76 37 [some (rf 69), some (it v1), some (it v2), some (it v3), none] [it 0] s (qi P)) ∧ (¬ (v2 = s 57 11) → Fr xs L T0 106 d 76 37 [some (rf 69), some (it v1), some (it v2), some (it v3), none] [it 1] s (qi P)))))) ∧ (¬ (¬ v1 = 2) → P 1 (zup s 68 6 (zw ((s 68 6) + v2)))))) : Fr xs L T0 106 d 76 0 [some (rf 69), some (it v1), some (it v2), some (it v3), none] [] s (qi P) := by
  refine Fr.ildn (by decide +kernel : zi 76 0 = some (.iload_n 1, 1)) rfl ?_
  refine Fr.iconst (by decide +kernel : zi 76 1 = some (.iconst 2, 1)) (by decide) ?_
  refine Fr.if2 (q := 17) (by decide +kernel : zi 76 2 = some (.if_icmp .ne 15, 3)) (by decide +kernel) (fun g9 => ?_) (fun g9 => ?_)
  · have h := h.1 g9
    refine Fr.ildn (by decide +kernel : zi 76 17 = some (.iload_n 1, 1)) rfl ?_
    refine Fr.if0 (q := 47) (by decide +kernel : zi 76 18 = some (.ifCond .ne 29, 3)) (by decide +kernel) (fun g9 => ?_) (fun g9 => ?_)
    · have h := h.1 g9
      refine Fr.aldn (c := 69) (by decide +kernel : zi 76 47 = some (.aload_n 0, 1)) rfl ⟨by omega, by omega⟩ ?_
      refine Fr.gR (c := 68) (c2 := 58) (ci := 6) (k := 0) 0 (by decide +kernel : zi 76 48 = some (.getfield 21, 3)) (by decide +kernel) (by decide +kernel) (by decide +kernel) (by decide) rfl (fun q => q (68, 0, 58) (by decide +kernel)) ?_
      refine Fr.ildn (by decide +kernel : zi 76 51 = some (.iload_n 2, 1)) rfl ?_
      refine Fr.ildn (by decide +kernel : zi 76 52 = some (.iload_n 3, 1)) rfl ?_
      refine Fr.callI (y2 := 47) (na := 3) (as := [rf 58, it v2, it v3]) (rest := []) (by decide +kernel : zi 76 53 = some (.invokevirtual 75, 3)) rfl (by decide +kernel) (by decide +kernel) rfl rfl (zok_V rfl (by decide) (by decide +kernel) (by decide +kernel) (zrecv_c (c := 57) (by decide) (by decide +kernel)) rfl (Nat.le_of_ble_eq_true rfl)) h (fun r2 s1 h => ?_)
      refine Fr.ist (lv2 := [some (rf 69), some (it v1), some (it v2), some (it v3), some (it r2)]) (by decide +kernel : zi 76 56 = some (.istore 4, 2)) (Nat.le_of_ble_eq_true rfl) rfl ?_
      refine Fr.ild (by decide +kernel : zi 76 58 = some (.iload 4, 2)) rfl ?_
      refine Fr.if0 (q := 69) (by decide +kernel : zi 76 60 = some (.ifCond .eq 9, 3)) (by decide +kernel) (fun g9 => ?_) (fun g9 => ?_)
      · have h := h.1 g9
        refine Fr.ild (by decide +kernel : zi 76 69 = some (.iload 4, 2)) rfl ?_
        exact Fr.retZ (by decide +kernel : zi 76 71 = some (.ireturn, 1)) (by decide +kernel) h.1 h.2
      · have h := h.2 g9
        refine Fr.aldn (c := 69) (by decide +kernel : zi 76 63 = some (.aload_n 0, 1)) rfl ⟨by omega, by omega⟩ ?_
        refine Fr.ildn (by decide +kernel : zi 76 64 = some (.iload_n 2, 1)) rfl ?_
        refine Fr.ildn (by decide +kernel : zi 76 65 = some (.iload_n 3, 1)) rfl ?_
        refine Fr.callV (y2 := 78) (na := 3) (as := [rf 69, it v2, it v3]) (rest := []) (by decide +kernel : zi 76 66 = some (.invokevirtual 79, 3)) rfl (by decide +kernel) (by decide +kernel) rfl rfl (zok_V rfl (by decide) (by decide +kernel) (by decide +kernel) (zrecv_c (c := 68) (by decide) (by decide +kernel)) rfl (Nat.le_of_ble_eq_true rfl)) h (fun s3 h => ?_)
        refine Fr.ild (by decide +kernel : zi 76 69 = some (.iload 4, 2)) rfl ?_
        exact Fr.retZ (by decide +kernel : zi 76 71 = some (.ireturn, 1)) (by decide +kernel) h.1 h.2
    · have h := h.2 g9
      refine Fr.ildn (by decide +kernel : zi 76 21 = some (.iload_n 2, 1)) rfl ?_
      refine Fr.aldn (c := 69) (by decide +kernel : zi 76 22 = some (.aload_n 0, 1)) rfl ⟨by omega, by omega⟩ ?_
      refine Fr.gR (c := 68) (c2 := 58) (ci := 6) (k := 0) 0 (by decide +kernel : zi 76 23 = some (.getfield 21, 3)) (by decide +kernel) (by decide +kernel) (by decide +kernel) (by decide) rfl (fun q => q (68, 0, 58) (by decide +kernel)) ?_
      refine Fr.gI (c := 57) (ci := 3) (k := 11) (t := 0) 11 (by decide +kernel : zi 76 26 = some (.getfield 69, 3)) (by decide +kernel) (by decide +kernel) (by decide +kernel) (by decide) rfl ?_
      refine Fr.if2 (q := 36) (by decide +kernel : zi 76 29 = some (.if_icmp .eq 7, 3)) (by decide +kernel) (fun g9 => ?_) (fun g9 => ?_)
      · have h := h.1 g9
        refine Fr.iconst (by decide +kernel : zi 76 36 = some (.iconst 0, 1)) (by decide) ?_
        exact h
      · have h := h.2 g9
        refine Fr.iconst (by decide +kernel : zi 76 32 = some (.iconst 1, 1)) (by decide) ?_
        refine Fr.goto (q := 37) (by decide +kernel : zi 76 33 = some (.goto 4, 3)) (by decide +kernel) ?_
        exact h
  · have h := h.2 g9
    refine Fr.aldn (c := 69) (by decide +kernel : zi 76 5 = some (.aload_n 0, 1)) rfl ⟨by omega, by omega⟩ ?_
    refine Fr.dup (by decide +kernel : zi 76 6 = some (.dup, 1)) rfl ?_
    refine Fr.gI (c := 68) (ci := 6) (k := 6) (t := 0) 6 (by decide +kernel : zi 76 7 = some (.getfield 43, 3)) (by decide +kernel) (by decide +kernel) (by decide +kernel) (by decide) rfl ?_
    refine Fr.ildn (by decide +kernel : zi 76 10 = some (.iload_n 2, 1)) rfl ?_
    refine Fr.iadd (by decide +kernel : zi 76 11 = some (.iadd, 1)) ?_
    refine Fr.pI (c := 68) (ci := 6) (k := 6) 6 (by decide +kernel : zi 76 12 = some (.putfield 43, 3)) (by decide +kernel) (by decide +kernel) (by decide +kernel) (by decide) rfl ?_
    refine Fr.iconst (by decide +kernel : zi 76 15 = some (.iconst 1, 1)) (by decide) ?_
    exact Fr.retZ (by decide +kernel : zi 76 16 = some (.ireturn, 1)) (by decide +kernel) (by decide) h
theorem e76 {xs : Nat → Int} {L : Nat} {d : Nat} {v1 : Int} {v2 : Int} {v3 : Int} {s : Pl} {Q : Option AV → Pl → Prop} (hd : 1 ≤ d) (k : Fr xs L T0 106 (d - 1) 76 0 [some (rf 69), some (it v1), some (it v2), some (it v3), none] [] s Q) : Ev xs L T0 106 d 76 [rf 69, it v1, it v2, it v3] s Q := Ev.of (by decide) _ rfl hd k
theorem f76_37 {xs : Nat → Int} {L : Nat} {d : Nat} {v1 : Int} {v2 : Int} {v3 : Int} {vs0 : Int} {s : Pl} {P : Int → Pl → Prop} (h : Ev xs L T0 106 d 77 [rf 69, it v2] s (qv fun s1 => ((vs0 = 0 ∨ vs0 = 1) ∧ P vs0 s1))) : Fr xs L T0 106 d 76 37 [some (rf 69), some (it v1), some (it v2), some (it v3), none] [it vs0] s (qi P) := by
  refine Fr.ist (lv2 := [some (rf 69), some (it v1), some (it v2), some (it v3), some (it vs0)]) (by decide +kernel : zi 76 37 = some (.istore 4, 2)) (Nat.le_of_ble_eq_true rfl) rfl ?_
  refine Fr.aldn (c := 69) (by decide +kernel : zi 76 39 = some (.aload_n 0, 1)) rfl ⟨by omega, by omega⟩ ?_
  refine Fr.ildn (by decide +kernel : zi 76 40 = some (.iload_n 2, 1)) rfl ?_
  refine Fr.callV (y2 := 77) (na := 2) (as := [rf 69, it v2]) (rest := []) (by decide +kernel : zi 76 41 = some (.invokevirtual 72, 3)) rfl (by decide +kernel) (by decide +kernel) rfl rfl (zok_V rfl (by decide) (by decide +kernel) (by decide +kernel) (zrecv_c (c := 68) (by decide) (by decide +kernel)) rfl (Nat.le_of_ble_eq_true rfl)) h (fun s1 h => ?_)
  refine Fr.ild (by decide +kernel : zi 76 44 = some (.iload 4, 2)) rfl ?_
  exact Fr.retZ (by decide +kernel : zi 76 46 = some (.ireturn, 1)) (by decide +kernel) h.1 h.2
-- 77 X6_row
theorem f77_0 {xs : Nat → Int} {L : Nat} {d : Nat} {v1 : Int} {s : Pl} {P : Pl → Prop} (h : Ev xs L T0 106 d 126 [it v1] s (qi fun r2 s1 => ((r2 = 0 → P s1) ∧ (¬ (r2 = 0) → Ev xs L T0 106 d 126 [it (s1 57 11)] s1 (qi fun r4 s3 => ((r4 = 0 → P s3) ∧ (¬ (r4 = 0) → (0 ≤ zw ((zw (4 * (s3 57 11))) + v1) ∧ zw ((zw (4 * (s3 57 11))) + v1) < 16) ∧ Ev xs L T0 106 d 46 [rf 58, it ((zup s3 68 6 (zw ((s3 68 6) + (s3 59 (zw ((zw (4 * (s3 57 11))) + v1)))))) 68 5), it v1] (zup s3 68 6 (zw ((s3 68 6) + (s3 59 (zw ((zw (4 * (s3 57 11))) + v1)))))) (qi fun r6 s5 => Ev xs L T0 106 d 42 [rf 58, it ((zup s5 68 5 r6) 68 5)] (zup s5 68 5 r6) (qv fun s7 => P s7))))))))) : Fr xs L T0 106 d 77 0 [some (rf 69), some (it v1)] [] s (qv P) := by
  refine Fr.ildn (by decide +kernel : zi 77 0 = some (.iload_n 1, 1)) rfl ?_
  refine Fr.callI (y2 := 126) (na := 1) (as := [it v1]) (rest := []) (by decide +kernel : zi 77 1 = some (.invokestatic 83, 3)) rfl (by decide +kernel) (by decide +kernel) rfl rfl (zok_S rfl (by decide) (by decide +kernel) rfl (Nat.le_of_ble_eq_true rfl)) h (fun r2 s1 h => ?_)
  refine Fr.if0 (q := 75) (by decide +kernel : zi 77 4 = some (.ifCond .eq 71, 3)) (by decide +kernel) (fun g9 => ?_) (fun g9 => ?_)
  · have h := h.1 g9
    exact Fr.retV (by decide +kernel : zi 77 75 = some (.return_, 1)) (by decide +kernel) h
  · have h := h.2 g9
    refine Fr.aldn (c := 69) (by decide +kernel : zi 77 7 = some (.aload_n 0, 1)) rfl ⟨by omega, by omega⟩ ?_
    refine Fr.gR (c := 68) (c2 := 58) (ci := 6) (k := 0) 0 (by decide +kernel : zi 77 8 = some (.getfield 21, 3)) (by decide +kernel) (by decide +kernel) (by decide +kernel) (by decide) rfl (fun q => q (68, 0, 58) (by decide +kernel)) ?_
    refine Fr.gI (c := 57) (ci := 3) (k := 11) (t := 0) 11 (by decide +kernel : zi 77 11 = some (.getfield 69, 3)) (by decide +kernel) (by decide +kernel) (by decide +kernel) (by decide) rfl ?_
    refine Fr.callI (y2 := 126) (na := 1) (as := [it (s1 57 11)]) (rest := []) (by decide +kernel : zi 77 14 = some (.invokestatic 83, 3)) rfl (by decide +kernel) (by decide +kernel) rfl rfl (zok_S rfl (by decide) (by decide +kernel) rfl (Nat.le_of_ble_eq_true rfl)) h (fun r4 s3 h => ?_)
    refine Fr.if0 (q := 75) (by decide +kernel : zi 77 17 = some (.ifCond .eq 58, 3)) (by decide +kernel) (fun g9 => ?_) (fun g9 => ?_)
    · have h := h.1 g9
      exact Fr.retV (by decide +kernel : zi 77 75 = some (.return_, 1)) (by decide +kernel) h
    · have h := h.2 g9
      refine Fr.aldn (c := 69) (by decide +kernel : zi 77 20 = some (.aload_n 0, 1)) rfl ⟨by omega, by omega⟩ ?_
      refine Fr.dup (by decide +kernel : zi 77 21 = some (.dup, 1)) rfl ?_
      refine Fr.gI (c := 68) (ci := 6) (k := 6) (t := 0) 6 (by decide +kernel : zi 77 22 = some (.getfield 43, 3)) (by decide +kernel) (by decide +kernel) (by decide +kernel) (by decide) rfl ?_
      refine Fr.aldn (c := 69) (by decide +kernel : zi 77 25 = some (.aload_n 0, 1)) rfl ⟨by omega, by omega⟩ ?_
      refine Fr.gR (c := 68) (c2 := 58) (ci := 6) (k := 0) 0 (by decide +kernel : zi 77 26 = some (.getfield 21, 3)) (by decide +kernel) (by decide +kernel) (by decide +kernel) (by decide) rfl (fun q => q (68, 0, 58) (by decide +kernel)) ?_
      refine Fr.gR (c := 57) (c2 := 60) (ci := 3) (k := 3) 3 (by decide +kernel : zi 77 29 = some (.getfield 87, 3)) (by decide +kernel) (by decide +kernel) (by decide +kernel) (by decide) rfl (fun q => q (57, 3, 60) (by decide +kernel)) ?_
      refine Fr.iconst (by decide +kernel : zi 77 32 = some (.iconst 4, 1)) (by decide) ?_
      refine Fr.aldn (c := 69) (by decide +kernel : zi 77 33 = some (.aload_n 0, 1)) rfl ⟨by omega, by omega⟩ ?_
      refine Fr.gR (c := 68) (c2 := 58) (ci := 6) (k := 0) 0 (by decide +kernel : zi 77 34 = some (.getfield 21, 3)) (by decide +kernel) (by decide +kernel) (by decide +kernel) (by decide) rfl (fun q => q (68, 0, 58) (by decide +kernel)) ?_
      refine Fr.gI (c := 57) (ci := 3) (k := 11) (t := 0) 11 (by decide +kernel : zi 77 37 = some (.getfield 69, 3)) (by decide +kernel) (by decide +kernel) (by decide +kernel) (by decide) rfl ?_
      refine Fr.imul (by decide +kernel : zi 77 40 = some (.imul, 1)) ?_
      refine Fr.ildn (by decide +kernel : zi 77 41 = some (.iload_n 1, 1)) rfl ?_
      refine Fr.iadd (by decide +kernel : zi 77 42 = some (.iadd, 1)) ?_
      obtain ⟨⟨g0, g1⟩, h⟩ := h
      refine Fr.iald (c := 59) (N := 16) (by decide +kernel : zi 77 43 = some (.iaload, 1)) (by decide +kernel) (by decide) g0 g1 ?_
      refine Fr.iadd (by decide +kernel : zi 77 44 = some (.iadd, 1)) ?_
      refine Fr.pI (c := 68) (ci := 6) (k := 6) 6 (by decide +kernel : zi 77 45 = some (.putfield 43, 3)) (by decide +kernel) (by decide +kernel) (by decide +kernel) (by decide) rfl ?_
      refine Fr.aldn (c := 69) (by decide +kernel : zi 77 48 = some (.aload_n 0, 1)) rfl ⟨by omega, by omega⟩ ?_
      refine Fr.aldn (c := 69) (by decide +kernel : zi 77 49 = some (.aload_n 0, 1)) rfl ⟨by omega, by omega⟩ ?_
      refine Fr.gR (c := 68) (c2 := 58) (ci := 6) (k := 0) 0 (by decide +kernel : zi 77 50 = some (.getfield 21, 3)) (by decide +kernel) (by decide +kernel) (by decide +kernel) (by decide) rfl (fun q => q (68, 0, 58) (by decide +kernel)) ?_
      refine Fr.aldn (c := 69) (by decide +kernel : zi 77 53 = some (.aload_n 0, 1)) rfl ⟨by omega, by omega⟩ ?_
      refine Fr.gI (c := 68) (ci := 6) (k := 5) (t := 0) 5 (by decide +kernel : zi 77 54 = some (.getfield 41, 3)) (by decide +kernel) (by decide +kernel) (by decide +kernel) (by decide) rfl ?_
      refine Fr.ildn (by decide +kernel : zi 77 57 = some (.iload_n 1, 1)) rfl ?_
      refine Fr.callI (y2 := 46) (na := 3) (as := [rf 58, it ((zup s3 68 6 (zw ((s3 68 6) + (s3 59 (zw ((zw (4 * (s3 57 11))) + v1)))))) 68 5), it v1]) (rest := [rf 69]) (by decide +kernel : zi 77 58 = some (.invokevirtual 89, 3)) rfl (by decide +kernel) (by decide +kernel) rfl rfl (zok_V rfl (by decide) (by decide +kernel) (by decide +kernel) (zrecv_c (c := 57) (by decide) (by decide +kernel)) rfl (Nat.le_of_ble_eq_true rfl)) h (fun r6 s5 h => ?_)
      refine Fr.pI (c := 68) (ci := 6) (k := 5) 5 (by decide +kernel : zi 77 61 = some (.putfield 41, 3)) (by decide +kernel) (by decide +kernel) (by decide +kernel) (by decide) rfl ?_
      refine Fr.aldn (c := 69) (by decide +kernel : zi 77 64 = some (.aload_n 0, 1)) rfl ⟨by omega, by omega⟩ ?_
      refine Fr.gR (c := 68) (c2 := 58) (ci := 6) (k := 0) 0 (by decide +kernel : zi 77 65 = some (.getfield 21, 3)) (by decide +kernel) (by decide +kernel) (by decide +kernel) (by decide) rfl (fun q => q (68, 0, 58) (by decide +kernel)) ?_
      refine Fr.aldn (c := 69) (by decide +kernel : zi 77 68 = some (.aload_n 0, 1)) rfl ⟨by omega, by omega⟩ ?_
      refine Fr.gI (c := 68) (ci := 6) (k := 5) (t := 0) 5 (by decide +kernel : zi 77 69 = some (.getfield 41, 3)) (by decide +kernel) (by decide +kernel) (by decide +kernel) (by decide) rfl ?_
      refine Fr.callV (y2 := 42) (na := 2) (as := [rf 58, it ((zup s5 68 5 r6) 68 5)]) (rest := []) (by decide +kernel : zi 77 72 = some (.invokevirtual 55, 3)) rfl (by decide +kernel) (by decide +kernel) rfl rfl (zok_V rfl (by decide) (by decide +kernel) (by decide +kernel) (zrecv_c (c := 57) (by decide) (by decide +kernel)) rfl (Nat.le_of_ble_eq_true rfl)) h (fun s7 h => ?_)
      exact Fr.retV (by decide +kernel : zi 77 75 = some (.return_, 1)) (by decide +kernel) h
theorem e77 {xs : Nat → Int} {L : Nat} {d : Nat} {v1 : Int} {s : Pl} {Q : Option AV → Pl → Prop} (hd : 1 ≤ d) (k : Fr xs L T0 106 (d - 1) 77 0 [some (rf 69), some (it v1)] [] s Q) : Ev xs L T0 106 d 77 [rf 69, it v1] s Q := Ev.of (by decide) _ rfl hd k
-- 78 X6_swap
theorem f78_0 {xs : Nat → Int} {L : Nat} {d : Nat} {v1 : Int} {v2 : Int} {s : Pl} {P : Pl → Prop} (h : Ev xs L T0 106 d 45 [rf 58, it (s 68 5), it v1, it v2] s (qi fun r2 s1 => Ev xs L T0 106 d 42 [rf 58, it ((zup s1 68 5 r2) 68 5)] (zup s1 68 5 r2) (qv fun s3 => P s3))) : Fr xs L T0 106 d 78 0 [some (rf 69), some (it v1), some (it v2)] [] s (qv P) := by
  refine Fr.aldn (c := 69) (by decide +kernel : zi 78 0 = some (.aload_n 0, 1)) rfl ⟨by omega, by omega⟩ ?_
  refine Fr.aldn (c := 69) (by decide +kernel : zi 78 1 = some (.aload_n 0, 1)) rfl ⟨by omega, by omega⟩ ?_
  refine Fr.gR (c := 68) (c2 := 58) (ci := 6) (k := 0) 0 (by decide +kernel : zi 78 2 = some (.getfield 21, 3)) (by decide +kernel) (by decide +kernel) (by decide +kernel) (by decide) rfl (fun q => q (68, 0, 58) (by decide +kernel)) ?_
  refine Fr.aldn (c := 69) (by decide +kernel : zi 78 5 = some (.aload_n 0, 1)) rfl ⟨by omega, by omega⟩ ?_
  refine Fr.gI (c := 68) (ci := 6) (k := 5) (t := 0) 5 (by decide +kernel : zi 78 6 = some (.getfield 41, 3)) (by decide +kernel) (by decide +kernel) (by decide +kernel) (by decide) rfl ?_
  refine Fr.ildn (by decide +kernel : zi 78 9 = some (.iload_n 1, 1)) rfl ?_
  refine Fr.ildn (by decide +kernel : zi 78 10 = some (.iload_n 2, 1)) rfl ?_
  refine Fr.callI (y2 := 45) (na := 4) (as := [rf 58, it (s 68 5), it v1, it v2]) (rest := [rf 69]) (by decide +kernel : zi 78 11 = some (.invokevirtual 93, 3)) rfl (by decide +kernel) (by decide +kernel) rfl rfl (zok_V rfl (by decide) (by decide +kernel) (by decide +kernel) (zrecv_c (c := 57) (by decide) (by decide +kernel)) rfl (Nat.le_of_ble_eq_true rfl)) h (fun r2 s1 h => ?_)
  refine Fr.pI (c := 68) (ci := 6) (k := 5) 5 (by decide +kernel : zi 78 14 = some (.putfield 41, 3)) (by decide +kernel) (by decide +kernel) (by decide +kernel) (by decide) rfl ?_
  refine Fr.aldn (c := 69) (by decide +kernel : zi 78 17 = some (.aload_n 0, 1)) rfl ⟨by omega, by omega⟩ ?_
  refine Fr.gR (c := 68) (c2 := 58) (ci := 6) (k := 0) 0 (by decide +kernel : zi 78 18 = some (.getfield 21, 3)) (by decide +kernel) (by decide +kernel) (by decide +kernel) (by decide) rfl (fun q => q (68, 0, 58) (by decide +kernel)) ?_
  refine Fr.aldn (c := 69) (by decide +kernel : zi 78 21 = some (.aload_n 0, 1)) rfl ⟨by omega, by omega⟩ ?_
  refine Fr.gI (c := 68) (ci := 6) (k := 5) (t := 0) 5 (by decide +kernel : zi 78 22 = some (.getfield 41, 3)) (by decide +kernel) (by decide +kernel) (by decide +kernel) (by decide) rfl ?_
  refine Fr.callV (y2 := 42) (na := 2) (as := [rf 58, it ((zup s1 68 5 r2) 68 5)]) (rest := []) (by decide +kernel : zi 78 25 = some (.invokevirtual 55, 3)) rfl (by decide +kernel) (by decide +kernel) rfl rfl (zok_V rfl (by decide) (by decide +kernel) (by decide +kernel) (zrecv_c (c := 57) (by decide) (by decide +kernel)) rfl (Nat.le_of_ble_eq_true rfl)) h (fun s3 h => ?_)
  exact Fr.retV (by decide +kernel : zi 78 28 = some (.return_, 1)) (by decide +kernel) h
theorem e78 {xs : Nat → Int} {L : Nat} {d : Nat} {v1 : Int} {v2 : Int} {s : Pl} {Q : Option AV → Pl → Prop} (hd : 1 ≤ d) (k : Fr xs L T0 106 (d - 1) 78 0 [some (rf 69), some (it v1), some (it v2)] [] s Q) : Ev xs L T0 106 d 78 [rf 69, it v1, it v2] s Q := Ev.of (by decide) _ rfl hd k
-- 79 X6_addGain
theorem f79_0 {xs : Nat → Int} {L : Nat} {d : Nat}  {s : Pl} {P : Pl → Prop} (h : Fr xs L T0 106 d 79 2 [some (rf 69), some (it 0)] [] s (qv P)) : Fr xs L T0 106 d 79 0 [some (rf 69), none] [] s (qv P) := by
  refine Fr.iconst (by decide +kernel : zi 79 0 = some (.iconst 0, 1)) (by decide) ?_
  refine Fr.istn (lv2 := [some (rf 69), some (it 0)]) (by decide +kernel : zi 79 1 = some (.istore_n 1, 1)) (Nat.le_of_ble_eq_true rfl) rfl ?_
  exact h
theorem e79 {xs : Nat → Int} {L : Nat} {d : Nat}  {s : Pl} {Q : Option AV → Pl → Prop} (hd : 1 ≤ d) (k : Fr xs L T0 106 (d - 1) 79 0 [some (rf 69), none] [] s Q) : Ev xs L T0 106 d 79 [rf 69] s Q := Ev.of (by decide) _ rfl hd k
theorem f79_2 {xs : Nat → Int} {L : Nat} {d : Nat} {v1 : Int} {s : Pl} {P : Pl → Prop} (h : ((6 ≤ v1 → P (zup s 68 9 (zor (s 68 9) (s 57 14)))) ∧ (¬ (6 ≤ v1) → ((zand (zshr (zand (s 57 14) (zxor (s 68 9) (-1))) v1) 1 = 0 → Fr xs L T0 106 d 79 50 [some (rf 69), some (it v1)] [] s (qv P)) ∧ (¬ (zand (zshr (zand (s 57 14) (zxor (s 68 9) (-1))) v1) 1 = 0) → Ev xs L T0 106 d 38 [rf 58, it v1, it (s 68 6)] s (qi fun r2 s1 => Fr xs L T0 106 d 79 50 [some (rf 69), some (it v1)] [] (zup s1 68 8 (zw ((s 68 8) + r2))) (qv P))))))) : Fr xs L T0 106 d 79 2 [some (rf 69), some (it v1)] [] s (qv P) := by
  refine Fr.ildn (by decide +kernel : zi 79 2 = some (.iload_n 1, 1)) rfl ?_
  refine Fr.bipush (by decide +kernel : zi 79 3 = some (.bipush 6, 2)) (by decide) ?_
  refine Fr.if2 (q := 56) (by decide +kernel : zi 79 5 = some (.if_icmp .ge 51, 3)) (by decide +kernel) (fun g9 => ?_) (fun g9 => ?_)
  · have h := h.1 g9
    refine Fr.aldn (c := 69) (by decide +kernel : zi 79 56 = some (.aload_n 0, 1)) rfl ⟨by omega, by omega⟩ ?_
    refine Fr.dup (by decide +kernel : zi 79 57 = some (.dup, 1)) rfl ?_
    refine Fr.gI (c := 68) (ci := 6) (k := 9) (t := 0) 9 (by decide +kernel : zi 79 58 = some (.getfield 52, 3)) (by decide +kernel) (by decide +kernel) (by decide +kernel) (by decide) rfl ?_
    refine Fr.aldn (c := 69) (by decide +kernel : zi 79 61 = some (.aload_n 0, 1)) rfl ⟨by omega, by omega⟩ ?_
    refine Fr.gR (c := 68) (c2 := 58) (ci := 6) (k := 0) 0 (by decide +kernel : zi 79 62 = some (.getfield 21, 3)) (by decide +kernel) (by decide +kernel) (by decide +kernel) (by decide) rfl (fun q => q (68, 0, 58) (by decide +kernel)) ?_
    refine Fr.gI (c := 57) (ci := 3) (k := 14) (t := 0) 14 (by decide +kernel : zi 79 65 = some (.getfield 97, 3)) (by decide +kernel) (by decide +kernel) (by decide +kernel) (by decide) rfl ?_
    refine Fr.ior (by decide +kernel : zi 79 68 = some (.ior, 1)) ?_
    refine Fr.pI (c := 68) (ci := 6) (k := 9) 9 (by decide +kernel : zi 79 69 = some (.putfield 52, 3)) (by decide +kernel) (by decide +kernel) (by decide +kernel) (by decide) rfl ?_
    exact Fr.retV (by decide +kernel : zi 79 72 = some (.return_, 1)) (by decide +kernel) h
  · have h := h.2 g9
    refine Fr.aldn (c := 69) (by decide +kernel : zi 79 8 = some (.aload_n 0, 1)) rfl ⟨by omega, by omega⟩ ?_
    refine Fr.gR (c := 68) (c2 := 58) (ci := 6) (k := 0) 0 (by decide +kernel : zi 79 9 = some (.getfield 21, 3)) (by decide +kernel) (by decide +kernel) (by decide +kernel) (by decide) rfl (fun q => q (68, 0, 58) (by decide +kernel)) ?_
    refine Fr.gI (c := 57) (ci := 3) (k := 14) (t := 0) 14 (by decide +kernel : zi 79 12 = some (.getfield 97, 3)) (by decide +kernel) (by decide +kernel) (by decide +kernel) (by decide) rfl ?_
    refine Fr.aldn (c := 69) (by decide +kernel : zi 79 15 = some (.aload_n 0, 1)) rfl ⟨by omega, by omega⟩ ?_
    refine Fr.gI (c := 68) (ci := 6) (k := 9) (t := 0) 9 (by decide +kernel : zi 79 16 = some (.getfield 52, 3)) (by decide +kernel) (by decide +kernel) (by decide +kernel) (by decide) rfl ?_
    refine Fr.iconst (by decide +kernel : zi 79 19 = some (.iconst (-1), 1)) (by decide) ?_
    refine Fr.ixor (by decide +kernel : zi 79 20 = some (.ixor, 1)) ?_
    refine Fr.iand (by decide +kernel : zi 79 21 = some (.iand, 1)) ?_
    refine Fr.ildn (by decide +kernel : zi 79 22 = some (.iload_n 1, 1)) rfl ?_
    refine Fr.ishr (by decide +kernel : zi 79 23 = some (.ishr, 1)) ?_
    refine Fr.iconst (by decide +kernel : zi 79 24 = some (.iconst 1, 1)) (by decide) ?_
    refine Fr.iand (by decide +kernel : zi 79 25 = some (.iand, 1)) ?_
    refine Fr.if0 (q := 50) (by decide +kernel : zi 79 26 = some (.ifCond .eq 24, 3)) (by decide +kernel) (fun g9 => ?_) (fun g9 => ?_)
    · have h := h.1 g9
      exact h
    · have h := h.2 g9
      refine Fr.aldn (c := 69) (by decide +kernel : zi 79 29 = some (.aload_n 0, 1)) rfl ⟨by omega, by omega⟩ ?_
      refine Fr.dup (by decide +kernel : zi 79 30 = some (.dup, 1)) rfl ?_
      refine Fr.gI (c := 68) (ci := 6) (k := 8) (t := 0) 8 (by decide +kernel : zi 79 31 = some (.getfield 49, 3)) (by decide +kernel) (by decide +kernel) (by decide +kernel) (by decide) rfl ?_
      refine Fr.aldn (c := 69) (by decide +kernel : zi 79 34 = some (.aload_n 0, 1)) rfl ⟨by omega, by omega⟩ ?_
      refine Fr.gR (c := 68) (c2 := 58) (ci := 6) (k := 0) 0 (by decide +kernel : zi 79 35 = some (.getfield 21, 3)) (by decide +kernel) (by decide +kernel) (by decide +kernel) (by decide) rfl (fun q => q (68, 0, 58) (by decide +kernel)) ?_
      refine Fr.ildn (by decide +kernel : zi 79 38 = some (.iload_n 1, 1)) rfl ?_
      refine Fr.aldn (c := 69) (by decide +kernel : zi 79 39 = some (.aload_n 0, 1)) rfl ⟨by omega, by omega⟩ ?_
      refine Fr.gI (c := 68) (ci := 6) (k := 6) (t := 0) 6 (by decide +kernel : zi 79 40 = some (.getfield 43, 3)) (by decide +kernel) (by decide +kernel) (by decide +kernel) (by decide) rfl ?_
      refine Fr.callI (y2 := 38) (na := 3) (as := [rf 58, it v1, it (s 68 6)]) (rest := [it (s 68 8), rf 69]) (by decide +kernel : zi 79 43 = some (.invokevirtual 100, 3)) rfl (by decide +kernel) (by decide +kernel) rfl rfl (zok_V rfl (by decide) (by decide +kernel) (by decide +kernel) (zrecv_c (c := 57) (by decide) (by decide +kernel)) rfl (Nat.le_of_ble_eq_true rfl)) h (fun r2 s1 h => ?_)
      refine Fr.iadd (by decide +kernel : zi 79 46 = some (.iadd, 1)) ?_
      refine Fr.pI (c := 68) (ci := 6) (k := 8) 8 (by decide +kernel : zi 79 47 = some (.putfield 49, 3)) (by decide +kernel) (by decide +kernel) (by decide +kernel) (by decide) rfl ?_
      exact h
theorem f79_50 {xs : Nat → Int} {L : Nat} {d : Nat} {v1 : Int} {s : Pl} {P : Pl → Prop} (h : Fr xs L T0 106 d 79 2 [some (rf 69), some (it (zw (v1 + 1)))] [] s (qv P)) : Fr xs L T0 106 d 79 50 [some (rf 69), some (it v1)] [] s (qv P) := by
  refine Fr.iinc (lv2 := [some (rf 69), some (it (zw (v1 + 1)))]) (by decide +kernel : zi 79 50 = some (.iinc 1 1, 3)) (Nat.le_of_ble_eq_true rfl) rfl rfl ?_
  refine Fr.goto (q := 2) (by decide +kernel : zi 79 53 = some (.goto (-51), 3)) (by decide +kernel) ?_
  exact h
-- 80 X6_draw
theorem f80_0 {xs : Nat → Int} {L : Nat} {d : Nat} {v1 : Int} {v2 : Int} {s : Pl} {P : Pl → Prop} (h : Ev xs L T0 106 d 74 [rf 69] s (qv fun s1 => Fr xs L T0 106 d 80 12 [some (rf 69), some (it v1), some (it v2), some (lg (zl (v1 + 1))), none, some (it 0), none] [] s1 (qv P))) : Fr xs L T0 106 d 80 0 [some (rf 69), some (it v1), some (it v2), none, none, none, none] [] s (qv P) := by
  refine Fr.aldn (c := 69) (by decide +kernel : zi 80 0 = some (.aload_n 0, 1)) rfl ⟨by omega, by omega⟩ ?_
  refine Fr.callV (y2 := 74) (na := 1) (as := [rf 69]) (rest := []) (by decide +kernel : zi 80 1 = some (.invokevirtual 59, 3)) rfl (by decide +kernel) (by decide +kernel) rfl rfl (zok_V rfl (by decide) (by decide +kernel) (by decide +kernel) (zrecv_c (c := 68) (by decide) (by decide +kernel)) rfl (Nat.le_of_ble_eq_true rfl)) h (fun s1 h => ?_)
  refine Fr.ildn (by decide +kernel : zi 80 4 = some (.iload_n 1, 1)) rfl ?_
  refine Fr.i2l (by decide +kernel : zi 80 5 = some (.i2l, 1)) ?_
  refine Fr.lconst (by decide +kernel : zi 80 6 = some (.lconst 1, 1)) ?_
  refine Fr.ladd (by decide +kernel : zi 80 7 = some (.ladd, 1)) ?_
  refine Fr.lstn (lv2 := [some (rf 69), some (it v1), some (it v2), some (lg (zl (v1 + 1))), none, none, none]) (by decide +kernel : zi 80 8 = some (.lstore_n 3, 1)) (Nat.le_of_ble_eq_true rfl) rfl ?_
  refine Fr.iconst (by decide +kernel : zi 80 9 = some (.iconst 0, 1)) (by decide) ?_
  refine Fr.ist (lv2 := [some (rf 69), some (it v1), some (it v2), some (lg (zl (v1 + 1))), none, some (it 0), none]) (by decide +kernel : zi 80 10 = some (.istore 5, 2)) (Nat.le_of_ble_eq_true rfl) rfl ?_
  exact h
theorem e80 {xs : Nat → Int} {L : Nat} {d : Nat} {v1 : Int} {v2 : Int} {s : Pl} {Q : Option AV → Pl → Prop} (hd : 1 ≤ d) (k : Fr xs L T0 106 (d - 1) 80 0 [some (rf 69), some (it v1), some (it v2), none, none, none, none] [] s Q) : Ev xs L T0 106 d 80 [rf 69, it v1, it v2] s Q := Ev.of (by decide) _ rfl hd k
theorem f80_12 {xs : Nat → Int} {L : Nat} {d : Nat} {v1 : Int} {v2 : Int} {v3 : Int} {v5 : Int} {w6 : Option AV} {s : Pl} {P : Pl → Prop} (h : ((v2 ≤ v5 → P s) ∧ (¬ (v2 ≤ v5) → Ev xs L T0 106 d 49 [rf 58] s (qv fun s1 => Ev xs L T0 106 d 230 [it 0, it (s1 57 15)] s1 (qi fun r3 s2 => (¬ (zw ((zw (r3 + 4)) - 1)) = 0) ∧ Ev xs L T0 106 d 81 [rf 69, it (zw (zlrem (zlrem (zl (v3 * 48271)) 2147483647) (zw ((zw (r3 + 4)) - 1))))] s2 (qv fun s4 => Fr xs L T0 106 d 80 12 [some (rf 69), some (it v1), some (it v2), some (lg (zlrem (zl (v3 * 48271)) 2147483647)), none, some (it (zw (v5 + 1))), some (it (zw ((zw (r3 + 4)) - 1)))] [] s4 (qv P))))))) : Fr xs L T0 106 d 80 12 [some (rf 69), some (it v1), some (it v2), some (lg v3), none, some (it v5), w6] [] s (qv P) := by
  refine Fr.ild (by decide +kernel : zi 80 12 = some (.iload 5, 2)) rfl ?_
  refine Fr.ildn (by decide +kernel : zi 80 14 = some (.iload_n 2, 1)) rfl ?_
  refine Fr.if2 (q := 68) (by decide +kernel : zi 80 15 = some (.if_icmp .ge 53, 3)) (by decide +kernel) (fun g9 => ?_) (fun g9 => ?_)
  · have h := h.1 g9
    exact Fr.retV (by decide +kernel : zi 80 68 = some (.return_, 1)) (by decide +kernel) h
  · have h := h.2 g9
    refine Fr.lldn (by decide +kernel : zi 80 18 = some (.lload_n 3, 1)) rfl ?_
    refine Fr.ldc2 (v := lg 48271) (by decide +kernel : zi 80 19 = some (.ldc2_w 103, 3)) (by decide +kernel) ?_
    refine Fr.lmul (by decide +kernel : zi 80 22 = some (.lmul, 1)) ?_
    refine Fr.ldc2 (v := lg 2147483647) (by decide +kernel : zi 80 23 = some (.ldc2_w 105, 3)) (by decide +kernel) ?_
    refine Fr.lrem (by decide +kernel : zi 80 26 = some (.lrem, 1)) (by decide) ?_
    refine Fr.lstn (lv2 := [some (rf 69), some (it v1), some (it v2), some (lg (zlrem (zl (v3 * 48271)) 2147483647)), none, some (it v5), w6]) (by decide +kernel : zi 80 27 = some (.lstore_n 3, 1)) (Nat.le_of_ble_eq_true rfl) rfl ?_
    refine Fr.aldn (c := 69) (by decide +kernel : zi 80 28 = some (.aload_n 0, 1)) rfl ⟨by omega, by omega⟩ ?_
    refine Fr.gR (c := 68) (c2 := 58) (ci := 6) (k := 0) 0 (by decide +kernel : zi 80 29 = some (.getfield 21, 3)) (by decide +kernel) (by decide +kernel) (by decide +kernel) (by decide) rfl (fun q => q (68, 0, 58) (by decide +kernel)) ?_
    refine Fr.callV (y2 := 49) (na := 1) (as := [rf 58]) (rest := []) (by decide +kernel : zi 80 32 = some (.invokevirtual 107, 3)) rfl (by decide +kernel) (by decide +kernel) rfl rfl (zok_V rfl (by decide) (by decide +kernel) (by decide +kernel) (zrecv_c (c := 57) (by decide) (by decide +kernel)) rfl (Nat.le_of_ble_eq_true rfl)) h (fun s1 h => ?_)
    refine Fr.iconst (by decide +kernel : zi 80 35 = some (.iconst 0, 1)) (by decide) ?_
    refine Fr.aldn (c := 69) (by decide +kernel : zi 80 36 = some (.aload_n 0, 1)) rfl ⟨by omega, by omega⟩ ?_
    refine Fr.gR (c := 68) (c2 := 58) (ci := 6) (k := 0) 0 (by decide +kernel : zi 80 37 = some (.getfield 21, 3)) (by decide +kernel) (by decide +kernel) (by decide +kernel) (by decide) rfl (fun q => q (68, 0, 58) (by decide +kernel)) ?_
    refine Fr.gI (c := 57) (ci := 3) (k := 15) (t := 0) 15 (by decide +kernel : zi 80 40 = some (.getfield 110, 3)) (by decide +kernel) (by decide +kernel) (by decide +kernel) (by decide) rfl ?_
    refine Fr.callI (y2 := 230) (na := 2) (as := [it 0, it (s1 57 15)]) (rest := []) (by decide +kernel : zi 80 43 = some (.invokestatic 113, 3)) rfl (by decide +kernel) (by decide +kernel) rfl rfl (zok_S rfl (by decide) (by decide +kernel) rfl (Nat.le_of_ble_eq_true rfl)) h (fun r3 s2 h => ?_)
    refine Fr.iconst (by decide +kernel : zi 80 46 = some (.iconst 4, 1)) (by decide) ?_
    refine Fr.iadd (by decide +kernel : zi 80 47 = some (.iadd, 1)) ?_
    refine Fr.iconst (by decide +kernel : zi 80 48 = some (.iconst 1, 1)) (by decide) ?_
    refine Fr.isub (by decide +kernel : zi 80 49 = some (.isub, 1)) ?_
    refine Fr.ist (lv2 := [some (rf 69), some (it v1), some (it v2), some (lg (zlrem (zl (v3 * 48271)) 2147483647)), none, some (it v5), some (it (zw ((zw (r3 + 4)) - 1)))]) (by decide +kernel : zi 80 50 = some (.istore 6, 2)) (Nat.le_of_ble_eq_true rfl) rfl ?_
    refine Fr.aldn (c := 69) (by decide +kernel : zi 80 52 = some (.aload_n 0, 1)) rfl ⟨by omega, by omega⟩ ?_
    refine Fr.lldn (by decide +kernel : zi 80 53 = some (.lload_n 3, 1)) rfl ?_
    refine Fr.ild (by decide +kernel : zi 80 54 = some (.iload 6, 2)) rfl ?_
    refine Fr.i2l (by decide +kernel : zi 80 56 = some (.i2l, 1)) ?_
    obtain ⟨g0, h⟩ := h
    refine Fr.lrem (by decide +kernel : zi 80 57 = some (.lrem, 1)) g0 ?_
    refine Fr.l2i (by decide +kernel : zi 80 58 = some (.l2i, 1)) ?_
    refine Fr.callV (y2 := 81) (na := 2) (as := [rf 69, it (zw (zlrem (zlrem (zl (v3 * 48271)) 2147483647) (zw ((zw (r3 + 4)) - 1))))]) (rest := []) (by decide +kernel : zi 80 59 = some (.invokevirtual 118, 3)) rfl (by decide +kernel) (by decide +kernel) rfl rfl (zok_V rfl (by decide) (by decide +kernel) (by decide +kernel) (zrecv_c (c := 68) (by decide) (by decide +kernel)) rfl (Nat.le_of_ble_eq_true rfl)) h (fun s4 h => ?_)
    refine Fr.iinc (lv2 := [some (rf 69), some (it v1), some (it v2), some (lg (zlrem (zl (v3 * 48271)) 2147483647)), none, some (it (zw (v5 + 1))), some (it (zw ((zw (r3 + 4)) - 1)))]) (by decide +kernel : zi 80 62 = some (.iinc 5 1, 3)) (Nat.le_of_ble_eq_true rfl) rfl rfl ?_
    refine Fr.goto (q := 12) (by decide +kernel : zi 80 65 = some (.goto (-53), 3)) (by decide +kernel) ?_
    exact h
-- 81 X6_choose
theorem f81_0 {xs : Nat → Int} {L : Nat} {d : Nat} {v1 : Int} {s : Pl} {P : Pl → Prop} (h : ((v1 < 0 → Fr xs L T0 106 d 81 50 [some (rf 69), some (it v1), none] [] s (qv P)) ∧ (¬ (v1 < 0) → ((s 57 15 ≤ v1 → Fr xs L T0 106 d 81 50 [some (rf 69), some (it v1), none] [] s (qv P)) ∧ (¬ (s 57 15 ≤ v1) → ((36 ≤ v1 → Fr xs L T0 106 d 81 50 [some (rf 69), some (it v1), none] [] s (qv P)) ∧ (¬ (36 ≤ v1) → (0 ≤ v1 ∧ v1 < 36) ∧ (0 ≤ v1 ∧ v1 < 36) ∧ Ev xs L T0 106 d 78 [rf 69, it (s 62 v1), it (s 63 v1)] s (qv fun s1 => P s1)))))))) : Fr xs L T0 106 d 81 0 [some (rf 69), some (it v1), none] [] s (qv P) := by
  refine Fr.ildn (by decide +kernel : zi 81 0 = some (.iload_n 1, 1)) rfl ?_
  refine Fr.if0 (q := 50) (by decide +kernel : zi 81 1 = some (.ifCond .lt 49, 3)) (by decide +kernel) (fun g9 => ?_) (fun g9 => ?_)
  · have h := h.1 g9
    exact h
  · have h := h.2 g9
    refine Fr.ildn (by decide +kernel : zi 81 4 = some (.iload_n 1, 1)) rfl ?_
    refine Fr.aldn (c := 69) (by decide +kernel : zi 81 5 = some (.aload_n 0, 1)) rfl ⟨by omega, by omega⟩ ?_
    refine Fr.gR (c := 68) (c2 := 58) (ci := 6) (k := 0) 0 (by decide +kernel : zi 81 6 = some (.getfield 21, 3)) (by decide +kernel) (by decide +kernel) (by decide +kernel) (by decide) rfl (fun q => q (68, 0, 58) (by decide +kernel)) ?_
    refine Fr.gI (c := 57) (ci := 3) (k := 15) (t := 0) 15 (by decide +kernel : zi 81 9 = some (.getfield 110, 3)) (by decide +kernel) (by decide +kernel) (by decide +kernel) (by decide) rfl ?_
    refine Fr.if2 (q := 50) (by decide +kernel : zi 81 12 = some (.if_icmp .ge 38, 3)) (by decide +kernel) (fun g9 => ?_) (fun g9 => ?_)
    · have h := h.1 g9
      exact h
    · have h := h.2 g9
      refine Fr.ildn (by decide +kernel : zi 81 15 = some (.iload_n 1, 1)) rfl ?_
      refine Fr.aldn (c := 69) (by decide +kernel : zi 81 16 = some (.aload_n 0, 1)) rfl ⟨by omega, by omega⟩ ?_
      refine Fr.gR (c := 68) (c2 := 58) (ci := 6) (k := 0) 0 (by decide +kernel : zi 81 17 = some (.getfield 21, 3)) (by decide +kernel) (by decide +kernel) (by decide +kernel) (by decide) rfl (fun q => q (68, 0, 58) (by decide +kernel)) ?_
      refine Fr.gR (c := 57) (c2 := 63) (ci := 3) (k := 16) 16 (by decide +kernel : zi 81 20 = some (.getfield 121, 3)) (by decide +kernel) (by decide +kernel) (by decide +kernel) (by decide) rfl (fun q => q (57, 16, 63) (by decide +kernel)) ?_
      refine Fr.alen (c := 62) (N := 36) (K := 20) (by decide +kernel : zi 81 23 = some (.arraylength, 1)) (by decide +kernel) (by decide) (by decide) ?_
      refine Fr.if2 (q := 50) (by decide +kernel : zi 81 24 = some (.if_icmp .ge 26, 3)) (by decide +kernel) (fun g9 => ?_) (fun g9 => ?_)
      · have h := h.1 g9
        exact h
      · have h := h.2 g9
        refine Fr.aldn (c := 69) (by decide +kernel : zi 81 27 = some (.aload_n 0, 1)) rfl ⟨by omega, by omega⟩ ?_
        refine Fr.aldn (c := 69) (by decide +kernel : zi 81 28 = some (.aload_n 0, 1)) rfl ⟨by omega, by omega⟩ ?_
        refine Fr.gR (c := 68) (c2 := 58) (ci := 6) (k := 0) 0 (by decide +kernel : zi 81 29 = some (.getfield 21, 3)) (by decide +kernel) (by decide +kernel) (by decide +kernel) (by decide) rfl (fun q => q (68, 0, 58) (by decide +kernel)) ?_
        refine Fr.gR (c := 57) (c2 := 63) (ci := 3) (k := 16) 16 (by decide +kernel : zi 81 32 = some (.getfield 121, 3)) (by decide +kernel) (by decide +kernel) (by decide +kernel) (by decide) rfl (fun q => q (57, 16, 63) (by decide +kernel)) ?_
        refine Fr.ildn (by decide +kernel : zi 81 35 = some (.iload_n 1, 1)) rfl ?_
        obtain ⟨⟨g0, g1⟩, h⟩ := h
        refine Fr.iald (c := 62) (N := 36) (by decide +kernel : zi 81 36 = some (.iaload, 1)) (by decide +kernel) (by decide) g0 g1 ?_
        refine Fr.aldn (c := 69) (by decide +kernel : zi 81 37 = some (.aload_n 0, 1)) rfl ⟨by omega, by omega⟩ ?_
        refine Fr.gR (c := 68) (c2 := 58) (ci := 6) (k := 0) 0 (by decide +kernel : zi 81 38 = some (.getfield 21, 3)) (by decide +kernel) (by decide +kernel) (by decide +kernel) (by decide) rfl (fun q => q (68, 0, 58) (by decide +kernel)) ?_
        refine Fr.gR (c := 57) (c2 := 64) (ci := 3) (k := 17) 17 (by decide +kernel : zi 81 41 = some (.getfield 124, 3)) (by decide +kernel) (by decide +kernel) (by decide +kernel) (by decide) rfl (fun q => q (57, 17, 64) (by decide +kernel)) ?_
        refine Fr.ildn (by decide +kernel : zi 81 44 = some (.iload_n 1, 1)) rfl ?_
        obtain ⟨⟨g0, g1⟩, h⟩ := h
        refine Fr.iald (c := 63) (N := 36) (by decide +kernel : zi 81 45 = some (.iaload, 1)) (by decide +kernel) (by decide) g0 g1 ?_
        refine Fr.callV (y2 := 78) (na := 3) (as := [rf 69, it (s 62 v1), it (s 63 v1)]) (rest := []) (by decide +kernel : zi 81 46 = some (.invokevirtual 79, 3)) rfl (by decide +kernel) (by decide +kernel) rfl rfl (zok_V rfl (by decide) (by decide +kernel) (by decide +kernel) (zrecv_c (c := 68) (by decide) (by decide +kernel)) rfl (Nat.le_of_ble_eq_true rfl)) h (fun s1 h => ?_)
        exact Fr.retV (by decide +kernel : zi 81 49 = some (.return_, 1)) (by decide +kernel) h
theorem e81 {xs : Nat → Int} {L : Nat} {d : Nat} {v1 : Int} {s : Pl} {Q : Option AV → Pl → Prop} (hd : 1 ≤ d) (k : Fr xs L T0 106 (d - 1) 81 0 [some (rf 69), some (it v1), none] [] s Q) : Ev xs L T0 106 d 81 [rf 69, it v1] s Q := Ev.of (by decide) _ rfl hd k
theorem f81_50 {xs : Nat → Int} {L : Nat} {d : Nat} {v1 : Int} {s : Pl} {P : Pl → Prop} (h : ((s 57 11 ≤ zw (v1 - (s 57 15)) → Fr xs L T0 106 d 81 79 [some (rf 69), some (it v1), some (it (zw (v1 - (s 57 15))))] [it (zw ((zw (v1 - (s 57 15))) + 1)), rf 69] s (qv P)) ∧ (¬ (s 57 11 ≤ zw (v1 - (s 57 15))) → Fr xs L T0 106 d 81 79 [some (rf 69), some (it v1), some (it (zw (v1 - (s 57 15))))] [it (zw (v1 - (s 57 15))), rf 69] s (qv P)))) : Fr xs L T0 106 d 81 50 [some (rf 69), some (it v1), none] [] s (qv P) := by
  refine Fr.ildn (by decide +kernel : zi 81 50 = some (.iload_n 1, 1)) rfl ?_
  refine Fr.aldn (c := 69) (by decide +kernel : zi 81 51 = some (.aload_n 0, 1)) rfl ⟨by omega, by omega⟩ ?_
  refine Fr.gR (c := 68) (c2 := 58) (ci := 6) (k := 0) 0 (by decide +kernel : zi 81 52 = some (.getfield 21, 3)) (by decide +kernel) (by decide +kernel) (by decide +kernel) (by decide) rfl (fun q => q (68, 0, 58) (by decide +kernel)) ?_
  refine Fr.gI (c := 57) (ci := 3) (k := 15) (t := 0) 15 (by decide +kernel : zi 81 55 = some (.getfield 110, 3)) (by decide +kernel) (by decide +kernel) (by decide +kernel) (by decide) rfl ?_
  refine Fr.isub (by decide +kernel : zi 81 58 = some (.isub, 1)) ?_
  refine Fr.istn (lv2 := [some (rf 69), some (it v1), some (it (zw (v1 - (s 57 15))))]) (by decide +kernel : zi 81 59 = some (.istore_n 2, 1)) (Nat.le_of_ble_eq_true rfl) rfl ?_
  refine Fr.aldn (c := 69) (by decide +kernel : zi 81 60 = some (.aload_n 0, 1)) rfl ⟨by omega, by omega⟩ ?_
  refine Fr.ildn (by decide +kernel : zi 81 61 = some (.iload_n 2, 1)) rfl ?_
  refine Fr.aldn (c := 69) (by decide +kernel : zi 81 62 = some (.aload_n 0, 1)) rfl ⟨by omega, by omega⟩ ?_
  refine Fr.gR (c := 68) (c2 := 58) (ci := 6) (k := 0) 0 (by decide +kernel : zi 81 63 = some (.getfield 21, 3)) (by decide +kernel) (by decide +kernel) (by decide +kernel) (by decide) rfl (fun q => q (68, 0, 58) (by decide +kernel)) ?_
  refine Fr.gI (c := 57) (ci := 3) (k := 11) (t := 0) 11 (by decide +kernel : zi 81 66 = some (.getfield 69, 3)) (by decide +kernel) (by decide +kernel) (by decide +kernel) (by decide) rfl ?_
  refine Fr.if2 (q := 76) (by decide +kernel : zi 81 69 = some (.if_icmp .ge 7, 3)) (by decide +kernel) (fun g9 => ?_) (fun g9 => ?_)
  · have h := h.1 g9
    refine Fr.ildn (by decide +kernel : zi 81 76 = some (.iload_n 2, 1)) rfl ?_
    refine Fr.iconst (by decide +kernel : zi 81 77 = some (.iconst 1, 1)) (by decide) ?_
    refine Fr.iadd (by decide +kernel : zi 81 78 = some (.iadd, 1)) ?_
    exact h
  · have h := h.2 g9
    refine Fr.ildn (by decide +kernel : zi 81 72 = some (.iload_n 2, 1)) rfl ?_
    refine Fr.goto (q := 79) (by decide +kernel : zi 81 73 = some (.goto 6, 3)) (by decide +kernel) ?_
    exact h
theorem f81_79 {xs : Nat → Int} {L : Nat} {d : Nat} {v1 : Int} {v2 : Int} {vs0 : Int} {s : Pl} {P : Pl → Prop} (h : Ev xs L T0 106 d 77 [rf 69, it vs0] s (qv fun s1 => P s1)) : Fr xs L T0 106 d 81 79 [some (rf 69), some (it v1), some (it v2)] [it vs0, rf 69] s (qv P) := by
  refine Fr.callV (y2 := 77) (na := 2) (as := [rf 69, it vs0]) (rest := []) (by decide +kernel : zi 81 79 = some (.invokevirtual 72, 3)) rfl (by decide +kernel) (by decide +kernel) rfl rfl (zok_V rfl (by decide) (by decide +kernel) (by decide +kernel) (zrecv_c (c := 68) (by decide) (by decide +kernel)) rfl (Nat.le_of_ble_eq_true rfl)) h (fun s1 h => ?_)
  exact Fr.retV (by decide +kernel : zi 81 82 = some (.return_, 1)) (by decide +kernel) h
-- 228 J6_bitCount_0f7a4
theorem f228_0 {xs : Nat → Int} {L : Nat} {T : List (Nat × Int × Int)} {n : Nat} {d : Nat} {v0 : Int} {s : Pl} {P : Int → Pl → Prop} (h : P (zand (zw ((zw ((zand (zw ((zw ((zand (zw (v0 - (zand (zushr v0 1) 1431655765))) 858993459) + (zand (zushr (zw (v0 - (zand (zushr v0 1) 1431655765))) 2) 858993459))) + (zushr (zw ((zand (zw (v0 - (zand (zushr v0 1) 1431655765))) 858993459) + (zand (zushr (zw (v0 - (zand (zushr v0 1) 1431655765))) 2) 858993459))) 4))) 252645135) + (zushr (zand (zw ((zw ((zand (zw (v0 - (zand (zushr v0 1) 1431655765))) 858993459) + (zand (zushr (zw (v0 - (zand (zushr v0 1) 1431655765))) 2) 858993459))) + (zushr (zw ((zand (zw (v0 - (zand (zushr v0 1) 1431655765))) 858993459) + (zand (zushr (zw (v0 - (zand (zushr v0 1) 1431655765))) 2) 858993459))) 4))) 252645135) 8))) + (zushr (zw ((zand (zw ((zw ((zand (zw (v0 - (zand (zushr v0 1) 1431655765))) 858993459) + (zand (zushr (zw (v0 - (zand (zushr v0 1) 1431655765))) 2) 858993459))) + (zushr (zw ((zand (zw (v0 - (zand (zushr v0 1) 1431655765))) 858993459) + (zand (zushr (zw (v0 - (zand (zushr v0 1) 1431655765))) 2) 858993459))) 4))) 252645135) + (zushr (zand (zw ((zw ((zand (zw (v0 - (zand (zushr v0 1) 1431655765))) 858993459) + (zand (zushr (zw (v0 - (zand (zushr v0 1) 1431655765))) 2) 858993459))) + (zushr (zw ((zand (zw (v0 - (zand (zushr v0 1) 1431655765))) 858993459) + (zand (zushr (zw (v0 - (zand (zushr v0 1) 1431655765))) 2) 858993459))) 4))) 252645135) 8))) 16))) 63) s) : Fr xs L T n d 228 0 [some (it v0)] [] s (qi P) := by
  refine Fr.ildn (by decide +kernel : zi 228 0 = some (.iload_n 0, 1)) rfl ?_
  refine Fr.ildn (by decide +kernel : zi 228 1 = some (.iload_n 0, 1)) rfl ?_
  refine Fr.iconst (by decide +kernel : zi 228 2 = some (.iconst 1, 1)) (by decide) ?_
  refine Fr.iushr (by decide +kernel : zi 228 3 = some (.iushr, 1)) ?_
  refine Fr.ldcw (v := 1431655765) (by decide +kernel : zi 228 4 = some (.ldc_w 265, 3)) (by decide +kernel) ?_
  refine Fr.iand (by decide +kernel : zi 228 7 = some (.iand, 1)) ?_
  refine Fr.isub (by decide +kernel : zi 228 8 = some (.isub, 1)) ?_
  refine Fr.istn (lv2 := [some (it (zw (v0 - (zand (zushr v0 1) 1431655765))))]) (by decide +kernel : zi 228 9 = some (.istore_n 0, 1)) (Nat.le_of_ble_eq_true rfl) rfl ?_
  refine Fr.ildn (by decide +kernel : zi 228 10 = some (.iload_n 0, 1)) rfl ?_
  refine Fr.ldcw (v := 858993459) (by decide +kernel : zi 228 11 = some (.ldc_w 266, 3)) (by decide +kernel) ?_
  refine Fr.iand (by decide +kernel : zi 228 14 = some (.iand, 1)) ?_
  refine Fr.ildn (by decide +kernel : zi 228 15 = some (.iload_n 0, 1)) rfl ?_
  refine Fr.iconst (by decide +kernel : zi 228 16 = some (.iconst 2, 1)) (by decide) ?_
  refine Fr.iushr (by decide +kernel : zi 228 17 = some (.iushr, 1)) ?_
  refine Fr.ldcw (v := 858993459) (by decide +kernel : zi 228 18 = some (.ldc_w 266, 3)) (by decide +kernel) ?_
  refine Fr.iand (by decide +kernel : zi 228 21 = some (.iand, 1)) ?_
  refine Fr.iadd (by decide +kernel : zi 228 22 = some (.iadd, 1)) ?_
  refine Fr.istn (lv2 := [some (it (zw ((zand (zw (v0 - (zand (zushr v0 1) 1431655765))) 858993459) + (zand (zushr (zw (v0 - (zand (zushr v0 1) 1431655765))) 2) 858993459))))]) (by decide +kernel : zi 228 23 = some (.istore_n 0, 1)) (Nat.le_of_ble_eq_true rfl) rfl ?_
  refine Fr.ildn (by decide +kernel : zi 228 24 = some (.iload_n 0, 1)) rfl ?_
  refine Fr.ildn (by decide +kernel : zi 228 25 = some (.iload_n 0, 1)) rfl ?_
  refine Fr.iconst (by decide +kernel : zi 228 26 = some (.iconst 4, 1)) (by decide) ?_
  refine Fr.iushr (by decide +kernel : zi 228 27 = some (.iushr, 1)) ?_
  refine Fr.iadd (by decide +kernel : zi 228 28 = some (.iadd, 1)) ?_
  refine Fr.ldcw (v := 252645135) (by decide +kernel : zi 228 29 = some (.ldc_w 267, 3)) (by decide +kernel) ?_
  refine Fr.iand (by decide +kernel : zi 228 32 = some (.iand, 1)) ?_
  refine Fr.istn (lv2 := [some (it (zand (zw ((zw ((zand (zw (v0 - (zand (zushr v0 1) 1431655765))) 858993459) + (zand (zushr (zw (v0 - (zand (zushr v0 1) 1431655765))) 2) 858993459))) + (zushr (zw ((zand (zw (v0 - (zand (zushr v0 1) 1431655765))) 858993459) + (zand (zushr (zw (v0 - (zand (zushr v0 1) 1431655765))) 2) 858993459))) 4))) 252645135))]) (by decide +kernel : zi 228 33 = some (.istore_n 0, 1)) (Nat.le_of_ble_eq_true rfl) rfl ?_
  refine Fr.ildn (by decide +kernel : zi 228 34 = some (.iload_n 0, 1)) rfl ?_
  refine Fr.ildn (by decide +kernel : zi 228 35 = some (.iload_n 0, 1)) rfl ?_
  refine Fr.bipush (by decide +kernel : zi 228 36 = some (.bipush 8, 2)) (by decide) ?_
  refine Fr.iushr (by decide +kernel : zi 228 38 = some (.iushr, 1)) ?_
  refine Fr.iadd (by decide +kernel : zi 228 39 = some (.iadd, 1)) ?_
  refine Fr.istn (lv2 := [some (it (zw ((zand (zw ((zw ((zand (zw (v0 - (zand (zushr v0 1) 1431655765))) 858993459) + (zand (zushr (zw (v0 - (zand (zushr v0 1) 1431655765))) 2) 858993459))) + (zushr (zw ((zand (zw (v0 - (zand (zushr v0 1) 1431655765))) 858993459) + (zand (zushr (zw (v0 - (zand (zushr v0 1) 1431655765))) 2) 858993459))) 4))) 252645135) + (zushr (zand (zw ((zw ((zand (zw (v0 - (zand (zushr v0 1) 1431655765))) 858993459) + (zand (zushr (zw (v0 - (zand (zushr v0 1) 1431655765))) 2) 858993459))) + (zushr (zw ((zand (zw (v0 - (zand (zushr v0 1) 1431655765))) 858993459) + (zand (zushr (zw (v0 - (zand (zushr v0 1) 1431655765))) 2) 858993459))) 4))) 252645135) 8))))]) (by decide +kernel : zi 228 40 = some (.istore_n 0, 1)) (Nat.le_of_ble_eq_true rfl) rfl ?_
  refine Fr.ildn (by decide +kernel : zi 228 41 = some (.iload_n 0, 1)) rfl ?_
  refine Fr.ildn (by decide +kernel : zi 228 42 = some (.iload_n 0, 1)) rfl ?_
  refine Fr.bipush (by decide +kernel : zi 228 43 = some (.bipush 16, 2)) (by decide) ?_
  refine Fr.iushr (by decide +kernel : zi 228 45 = some (.iushr, 1)) ?_
  refine Fr.iadd (by decide +kernel : zi 228 46 = some (.iadd, 1)) ?_
  refine Fr.istn (lv2 := [some (it (zw ((zw ((zand (zw ((zw ((zand (zw (v0 - (zand (zushr v0 1) 1431655765))) 858993459) + (zand (zushr (zw (v0 - (zand (zushr v0 1) 1431655765))) 2) 858993459))) + (zushr (zw ((zand (zw (v0 - (zand (zushr v0 1) 1431655765))) 858993459) + (zand (zushr (zw (v0 - (zand (zushr v0 1) 1431655765))) 2) 858993459))) 4))) 252645135) + (zushr (zand (zw ((zw ((zand (zw (v0 - (zand (zushr v0 1) 1431655765))) 858993459) + (zand (zushr (zw (v0 - (zand (zushr v0 1) 1431655765))) 2) 858993459))) + (zushr (zw ((zand (zw (v0 - (zand (zushr v0 1) 1431655765))) 858993459) + (zand (zushr (zw (v0 - (zand (zushr v0 1) 1431655765))) 2) 858993459))) 4))) 252645135) 8))) + (zushr (zw ((zand (zw ((zw ((zand (zw (v0 - (zand (zushr v0 1) 1431655765))) 858993459) + (zand (zushr (zw (v0 - (zand (zushr v0 1) 1431655765))) 2) 858993459))) + (zushr (zw ((zand (zw (v0 - (zand (zushr v0 1) 1431655765))) 858993459) + (zand (zushr (zw (v0 - (zand (zushr v0 1) 1431655765))) 2) 858993459))) 4))) 252645135) + (zushr (zand (zw ((zw ((zand (zw (v0 - (zand (zushr v0 1) 1431655765))) 858993459) + (zand (zushr (zw (v0 - (zand (zushr v0 1) 1431655765))) 2) 858993459))) + (zushr (zw ((zand (zw (v0 - (zand (zushr v0 1) 1431655765))) 858993459) + (zand (zushr (zw (v0 - (zand (zushr v0 1) 1431655765))) 2) 858993459))) 4))) 252645135) 8))) 16))))]) (by decide +kernel : zi 228 47 = some (.istore_n 0, 1)) (Nat.le_of_ble_eq_true rfl) rfl ?_
  refine Fr.ildn (by decide +kernel : zi 228 48 = some (.iload_n 0, 1)) rfl ?_
  refine Fr.bipush (by decide +kernel : zi 228 49 = some (.bipush 63, 2)) (by decide) ?_
  refine Fr.iand (by decide +kernel : zi 228 51 = some (.iand, 1)) ?_
  exact Fr.retI (by decide +kernel : zi 228 52 = some (.ireturn, 1)) (by decide +kernel) h
theorem e228 {xs : Nat → Int} {L : Nat} {T : List (Nat × Int × Int)} {n : Nat} {d : Nat} {v0 : Int} {s : Pl} {Q : Option AV → Pl → Prop} (hd : 1 ≤ d) (k : Fr xs L T n (d - 1) 228 0 [some (it v0)] [] s Q) : Ev xs L T n d 228 [it v0] s Q := Ev.of (by decide) _ rfl hd k
-- 229 J9_abs_0f7a4
theorem f229_0 {xs : Nat → Int} {L : Nat} {T : List (Nat × Int × Int)} {n : Nat} {d : Nat} {v0 : Int} {s : Pl} {P : Int → Pl → Prop} (h : ((0 ≤ v0 → P v0 s) ∧ (¬ (0 ≤ v0) → P (zw (-v0)) s))) : Fr xs L T n d 229 0 [some (it v0)] [] s (qi P) := by
  refine Fr.ildn (by decide +kernel : zi 229 0 = some (.iload_n 0, 1)) rfl ?_
  refine Fr.if0 (q := 9) (by decide +kernel : zi 229 1 = some (.ifCond .ge 8, 3)) (by decide +kernel) (fun g9 => ?_) (fun g9 => ?_)
  · have h := h.1 g9
    refine Fr.ildn (by decide +kernel : zi 229 9 = some (.iload_n 0, 1)) rfl ?_
    exact Fr.retI (by decide +kernel : zi 229 10 = some (.ireturn, 1)) (by decide +kernel) h
  · have h := h.2 g9
    refine Fr.ildn (by decide +kernel : zi 229 4 = some (.iload_n 0, 1)) rfl ?_
    refine Fr.ineg (by decide +kernel : zi 229 5 = some (.ineg, 1)) ?_
    refine Fr.goto (q := 10) (by decide +kernel : zi 229 6 = some (.goto 4, 3)) (by decide +kernel) ?_
    exact Fr.retI (by decide +kernel : zi 229 10 = some (.ireturn, 1)) (by decide +kernel) h
theorem e229 {xs : Nat → Int} {L : Nat} {T : List (Nat × Int × Int)} {n : Nat} {d : Nat} {v0 : Int} {s : Pl} {Q : Option AV → Pl → Prop} (hd : 1 ≤ d) (k : Fr xs L T n (d - 1) 229 0 [some (it v0)] [] s Q) : Ev xs L T n d 229 [it v0] s Q := Ev.of (by decide) _ rfl hd k
-- 230 J9_max_7cf53
theorem f230_0 {xs : Nat → Int} {L : Nat} {T : List (Nat × Int × Int)} {n : Nat} {d : Nat} {v0 : Int} {v1 : Int} {s : Pl} {P : Int → Pl → Prop} (h : ((v0 < v1 → P v1 s) ∧ (¬ (v0 < v1) → P v0 s))) : Fr xs L T n d 230 0 [some (it v0), some (it v1)] [] s (qi P) := by
  refine Fr.ildn (by decide +kernel : zi 230 0 = some (.iload_n 0, 1)) rfl ?_
  refine Fr.ildn (by decide +kernel : zi 230 1 = some (.iload_n 1, 1)) rfl ?_
  refine Fr.if2 (q := 9) (by decide +kernel : zi 230 2 = some (.if_icmp .lt 7, 3)) (by decide +kernel) (fun g9 => ?_) (fun g9 => ?_)
  · have h := h.1 g9
    refine Fr.ildn (by decide +kernel : zi 230 9 = some (.iload_n 1, 1)) rfl ?_
    exact Fr.retI (by decide +kernel : zi 230 10 = some (.ireturn, 1)) (by decide +kernel) h
  · have h := h.2 g9
    refine Fr.ildn (by decide +kernel : zi 230 5 = some (.iload_n 0, 1)) rfl ?_
    refine Fr.goto (q := 10) (by decide +kernel : zi 230 6 = some (.goto 4, 3)) (by decide +kernel) ?_
    exact Fr.retI (by decide +kernel : zi 230 10 = some (.ireturn, 1)) (by decide +kernel) h
theorem e230 {xs : Nat → Int} {L : Nat} {T : List (Nat × Int × Int)} {n : Nat} {d : Nat} {v0 : Int} {v1 : Int} {s : Pl} {Q : Option AV → Pl → Prop} (hd : 1 ≤ d) (k : Fr xs L T n (d - 1) 230 0 [some (it v0), some (it v1)] [] s Q) : Ev xs L T n d 230 [it v0, it v1] s Q := Ev.of (by decide) _ rfl hd k
-- 231 J9_min_7cf53
theorem f231_0 {xs : Nat → Int} {L : Nat} {T : List (Nat × Int × Int)} {n : Nat} {d : Nat} {v0 : Int} {v1 : Int} {s : Pl} {P : Int → Pl → Prop} (h : ((v1 < v0 → P v1 s) ∧ (¬ (v1 < v0) → P v0 s))) : Fr xs L T n d 231 0 [some (it v0), some (it v1)] [] s (qi P) := by
  refine Fr.ildn (by decide +kernel : zi 231 0 = some (.iload_n 0, 1)) rfl ?_
  refine Fr.ildn (by decide +kernel : zi 231 1 = some (.iload_n 1, 1)) rfl ?_
  refine Fr.if2 (q := 9) (by decide +kernel : zi 231 2 = some (.if_icmp .gt 7, 3)) (by decide +kernel) (fun g9 => ?_) (fun g9 => ?_)
  · have h := h.1 g9
    refine Fr.ildn (by decide +kernel : zi 231 9 = some (.iload_n 1, 1)) rfl ?_
    exact Fr.retI (by decide +kernel : zi 231 10 = some (.ireturn, 1)) (by decide +kernel) h
  · have h := h.2 g9
    refine Fr.ildn (by decide +kernel : zi 231 5 = some (.iload_n 0, 1)) rfl ?_
    refine Fr.goto (q := 10) (by decide +kernel : zi 231 6 = some (.goto 4, 3)) (by decide +kernel) ?_
    exact Fr.retI (by decide +kernel : zi 231 10 = some (.ireturn, 1)) (by decide +kernel) h
theorem e231 {xs : Nat → Int} {L : Nat} {T : List (Nat × Int × Int)} {n : Nat} {d : Nat} {v0 : Int} {v1 : Int} {s : Pl} {Q : Option AV → Pl → Prop} (hd : 1 ≤ d) (k : Fr xs L T n (d - 1) 231 0 [some (it v0), some (it v1)] [] s Q) : Ev xs L T n d 231 [it v0, it v1] s Q := Ev.of (by decide) _ rfl hd k
-- 238 J7_fill_53178
theorem f238_0 {xs : Nat → Int} {L : Nat} {T : List (Nat × Int × Int)} {n : Nat} {d : Nat} {v1 : Int} {ca Na : Nat} {s : Pl} {P : Pl → Prop} (hca : zsh ca = (20, Na)) (hcn : ca < n) (h : Fr xs L T n d 238 5 [some (rf (ca + 1)), some (it v1), some (it 0), some (it (Na : Int))] [] s (qv P)) : Fr xs L T n d 238 0 [some (rf (ca + 1)), some (it v1), none, none] [] s (qv P) := by
  have hc9 := zsh_lt9 (ci := 20) (by rw [hca]) (by decide)
  refine Fr.iconst (by decide +kernel : zi 238 0 = some (.iconst 0, 1)) (by decide) ?_
  refine Fr.istn (lv2 := [some (rf (ca + 1)), some (it v1), some (it 0), none]) (by decide +kernel : zi 238 1 = some (.istore_n 2, 1)) (Nat.le_of_ble_eq_true rfl) rfl ?_
  refine Fr.aldn (c := (ca + 1)) (by decide +kernel : zi 238 2 = some (.aload_n 0, 1)) rfl ⟨by omega, by omega⟩ ?_
  refine Fr.alen (c := ca) (N := Na) (K := 20) (by decide +kernel : zi 238 3 = some (.arraylength, 1)) hca (by decide) (by omega) ?_
  refine Fr.istn (lv2 := [some (rf (ca + 1)), some (it v1), some (it 0), some (it (Na : Int))]) (by decide +kernel : zi 238 4 = some (.istore_n 3, 1)) (Nat.le_of_ble_eq_true rfl) rfl ?_
  exact h
theorem e238 {xs : Nat → Int} {L : Nat} {T : List (Nat × Int × Int)} {n : Nat} {d : Nat} {v1 : Int} {ca : Nat} {s : Pl} {Q : Option AV → Pl → Prop} (hd : 1 ≤ d) (k : Fr xs L T n (d - 1) 238 0 [some (rf (ca + 1)), some (it v1), none, none] [] s Q) : Ev xs L T n d 238 [rf (ca + 1), it v1] s Q := Ev.of (by decide) _ rfl hd k
theorem f238_5 {xs : Nat → Int} {L : Nat} {T : List (Nat × Int × Int)} {n : Nat} {d : Nat} {v1 : Int} {v2 : Int} {v3 : Int} {ca Na : Nat} {s : Pl} {P : Pl → Prop} (hca : zsh ca = (20, Na)) (hcn : ca < n) (h : ((v3 ≤ v2 → P s) ∧ (¬ (v3 ≤ v2) → (0 ≤ v2 ∧ v2 < Na) ∧ Fr xs L T n d 238 5 [some (rf (ca + 1)), some (it v1), some (it (zw (v2 + 1))), some (it v3)] [] (zup s ca v2 v1) (qv P)))) : Fr xs L T n d 238 5 [some (rf (ca + 1)), some (it v1), some (it v2), some (it v3)] [] s (qv P) := by
  have hc9 := zsh_lt9 (ci := 20) (by rw [hca]) (by decide)
  refine Fr.ildn (by decide +kernel : zi 238 5 = some (.iload_n 2, 1)) rfl ?_
  refine Fr.ildn (by decide +kernel : zi 238 6 = some (.iload_n 3, 1)) rfl ?_
  refine Fr.if2 (q := 20) (by decide +kernel : zi 238 7 = some (.if_icmp .ge 13, 3)) (by decide +kernel) (fun g9 => ?_) (fun g9 => ?_)
  · have h := h.1 g9
    exact Fr.retV (by decide +kernel : zi 238 20 = some (.return_, 1)) (by decide +kernel) h
  · have h := h.2 g9
    refine Fr.aldn (c := (ca + 1)) (by decide +kernel : zi 238 10 = some (.aload_n 0, 1)) rfl ⟨by omega, by omega⟩ ?_
    refine Fr.ildn (by decide +kernel : zi 238 11 = some (.iload_n 2, 1)) rfl ?_
    refine Fr.ildn (by decide +kernel : zi 238 12 = some (.iload_n 1, 1)) rfl ?_
    obtain ⟨⟨g0, g1⟩, h⟩ := h
    refine Fr.iast (c := ca) (N := Na) (by decide +kernel : zi 238 13 = some (.iastore, 1)) hca (by omega) g0 g1 ?_
    refine Fr.iinc (lv2 := [some (rf (ca + 1)), some (it v1), some (it (zw (v2 + 1))), some (it v3)]) (by decide +kernel : zi 238 14 = some (.iinc 2 1, 3)) (Nat.le_of_ble_eq_true rfl) rfl rfl ?_
    refine Fr.goto (q := 5) (by decide +kernel : zi 238 17 = some (.goto (-12), 3)) (by decide +kernel) ?_
    exact h
