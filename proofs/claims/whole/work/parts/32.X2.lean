-- 17 X2_append
theorem f17_0 {xs : Nat → Int} {L : Nat} {T : List (Nat × Int × Int)} {n : Nat} {d : Nat} {v1 : Int} {s : Pl} {P : Pl → Prop} (hK : KR T n) (h : ((s 53 1 < 0 → P s) ∧ (¬ (s 53 1 < 0) → ((160 ≤ s 53 1 → P s) ∧ (¬ (160 ≤ s 53 1) → (0 ≤ s 53 1 ∧ s 53 1 < 160) ∧ P (zup (zup s 54 (s 53 1) v1) 53 1 (zw (((zup s 54 (s 53 1) v1) 53 1) + 1)))))))) : Fr xs L T n d 17 0 [some (rf 54), some (it v1)] [] s (qv P) := by
  have hn := hK.1
  refine Fr.aldn (c := 54) (by decide +kernel : zi 17 0 = some (.aload_n 0, 1)) rfl ⟨by omega, by omega⟩ ?_
  refine Fr.gI (c := 53) (ci := 2) (k := 1) (t := 0) 1 (by decide +kernel : zi 17 1 = some (.getfield 25, 3)) (by decide +kernel) (by decide +kernel) (by decide +kernel) (by omega) rfl ?_
  refine Fr.if0 (q := 39) (by decide +kernel : zi 17 4 = some (.ifCond .lt 35, 3)) (by decide +kernel) (fun g9 => ?_) (fun g9 => ?_)
  · have h := h.1 g9
    exact Fr.retV (by decide +kernel : zi 17 39 = some (.return_, 1)) (by decide +kernel) h
  · have h := h.2 g9
    refine Fr.aldn (c := 54) (by decide +kernel : zi 17 7 = some (.aload_n 0, 1)) rfl ⟨by omega, by omega⟩ ?_
    refine Fr.gI (c := 53) (ci := 2) (k := 1) (t := 0) 1 (by decide +kernel : zi 17 8 = some (.getfield 25, 3)) (by decide +kernel) (by decide +kernel) (by decide +kernel) (by omega) rfl ?_
    refine Fr.aldn (c := 54) (by decide +kernel : zi 17 11 = some (.aload_n 0, 1)) rfl ⟨by omega, by omega⟩ ?_
    refine Fr.gR (c := 53) (c2 := 55) (ci := 2) (k := 0) 0 (by decide +kernel : zi 17 12 = some (.getfield 9, 3)) (by decide +kernel) (by decide +kernel) (by decide +kernel) (by omega) rfl (fun q => q (53, 0, 55) (hK.2.1 _ (by decide +kernel))) ?_
    refine Fr.alen (c := 54) (N := 160) (K := 20) (by decide +kernel : zi 17 15 = some (.arraylength, 1)) (by decide +kernel) (by decide) (by omega) ?_
    refine Fr.if2 (q := 39) (by decide +kernel : zi 17 16 = some (.if_icmp .ge 23, 3)) (by decide +kernel) (fun g9 => ?_) (fun g9 => ?_)
    · have h := h.1 g9
      exact Fr.retV (by decide +kernel : zi 17 39 = some (.return_, 1)) (by decide +kernel) h
    · have h := h.2 g9
      refine Fr.aldn (c := 54) (by decide +kernel : zi 17 19 = some (.aload_n 0, 1)) rfl ⟨by omega, by omega⟩ ?_
      refine Fr.gR (c := 53) (c2 := 55) (ci := 2) (k := 0) 0 (by decide +kernel : zi 17 20 = some (.getfield 9, 3)) (by decide +kernel) (by decide +kernel) (by decide +kernel) (by omega) rfl (fun q => q (53, 0, 55) (hK.2.1 _ (by decide +kernel))) ?_
      refine Fr.aldn (c := 54) (by decide +kernel : zi 17 23 = some (.aload_n 0, 1)) rfl ⟨by omega, by omega⟩ ?_
      refine Fr.gI (c := 53) (ci := 2) (k := 1) (t := 0) 1 (by decide +kernel : zi 17 24 = some (.getfield 25, 3)) (by decide +kernel) (by decide +kernel) (by decide +kernel) (by omega) rfl ?_
      refine Fr.ildn (by decide +kernel : zi 17 27 = some (.iload_n 1, 1)) rfl ?_
      obtain ⟨⟨g0, g1⟩, h⟩ := h
      refine Fr.iast (c := 54) (N := 160) (by decide +kernel : zi 17 28 = some (.iastore, 1)) (by decide +kernel) (by omega) g0 g1 ?_
      refine Fr.aldn (c := 54) (by decide +kernel : zi 17 29 = some (.aload_n 0, 1)) rfl ⟨by omega, by omega⟩ ?_
      refine Fr.dup (by decide +kernel : zi 17 30 = some (.dup, 1)) rfl ?_
      refine Fr.gI (c := 53) (ci := 2) (k := 1) (t := 0) 1 (by decide +kernel : zi 17 31 = some (.getfield 25, 3)) (by decide +kernel) (by decide +kernel) (by decide +kernel) (by omega) rfl ?_
      refine Fr.iconst (by decide +kernel : zi 17 34 = some (.iconst 1, 1)) (by decide) ?_
      refine Fr.iadd (by decide +kernel : zi 17 35 = some (.iadd, 1)) ?_
      refine Fr.pI (c := 53) (ci := 2) (k := 1) 1 (by decide +kernel : zi 17 36 = some (.putfield 25, 3)) (by decide +kernel) (by decide +kernel) (by decide +kernel) (by omega) rfl ?_
      exact Fr.retV (by decide +kernel : zi 17 39 = some (.return_, 1)) (by decide +kernel) h
theorem e17 {xs : Nat → Int} {L : Nat} {T : List (Nat × Int × Int)} {n : Nat} {d : Nat} {v1 : Int} {s : Pl} {Q : Option AV → Pl → Prop} (hd : 1 ≤ d) (k : Fr xs L T n (d - 1) 17 0 [some (rf 54), some (it v1)] [] s Q) : Ev xs L T n d 17 [rf 54, it v1] s Q := Ev.of (by decide) _ rfl hd k
-- 18 X2_faultOf
theorem f18_0 {xs : Nat → Int} {L : Nat} {T : List (Nat × Int × Int)} {n : Nat} {d : Nat} {t1 : Nat} {s : Pl} {P : Int → Pl → Prop} (hK : KR T n) (ht1 : t1 < 6) (h : ∃ tq1 : Nat, tq1 < 6 ∧ (zup s 53 8 ((21 + 4 * t1 + 1 : Nat) : Int)) 53 8 = ((21 + 4 * tq1 + 1 : Nat) : Int) ∧ Ev xs L T n d 10 [rf (21 + 4 * tq1 + 1)] (zup s 53 8 ((21 + 4 * t1 + 1 : Nat) : Int)) (qv fun s2 => Ev xs L T n d 29 [rf 54] (zup s2 53 9 0) (qv fun s3 => Ev xs L T n d 28 [rf 54] (zup s3 53 5 0) (qv fun s4 => Fr xs L T n d 18 32 [some (rf 54), some (rf (21 + 4 * t1 + 1)), some (it 0)] [] s4 (qi P))))) : Fr xs L T n d 18 0 [some (rf 54), some (rf (21 + 4 * t1 + 1)), none] [] s (qi P) := by
  have hn := hK.1
  refine Fr.aldn (c := 54) (by decide +kernel : zi 18 0 = some (.aload_n 0, 1)) rfl ⟨by omega, by omega⟩ ?_
  refine Fr.aldn (c := (21 + 4 * t1 + 1)) (by decide +kernel : zi 18 1 = some (.aload_n 1, 1)) rfl ⟨by omega, by omega⟩ ?_
  refine Fr.pR (c := 53) (w := (21 + 4 * t1 + 1)) (ci := 2) (k := 8) 8 (by decide +kernel : zi 18 2 = some (.putfield 21, 3)) (by decide +kernel) (by decide +kernel) (by decide +kernel) (by omega) rfl ⟨by omega, by omega⟩ (fun e he => (zlaw_ns e (hK.2.2 e he)).1) ?_
  refine Fr.aldn (c := 54) (by decide +kernel : zi 18 5 = some (.aload_n 0, 1)) rfl ⟨by omega, by omega⟩ ?_
  obtain ⟨tq1, htq1, g0, h⟩ := h
  refine Fr.gR (c := 53) (c2 := (21 + 4 * tq1 + 1)) (ci := 2) (k := 8) 8 (by decide +kernel : zi 18 6 = some (.getfield 21, 3)) (by decide +kernel) (by decide +kernel) (by decide +kernel) (by omega) rfl (fun _ => g0) ?_
  refine Fr.callV (y2 := 10) (na := 1) (as := [rf (21 + 4 * tq1 + 1)]) (rest := []) (by decide +kernel : zi 18 9 = some (.invokevirtual 29, 3)) rfl (by decide +kernel) (by decide +kernel) rfl rfl (zok_V rfl (by decide) (by decide +kernel) (by decide +kernel) (zrecv_c (c := (21 + 4 * tq1)) (by omega) (by rw [(zlaw_sh _ htq1).1]; decide +kernel)) rfl (Nat.le_of_ble_eq_true rfl)) h (fun s2 h => ?_)
  refine Fr.aldn (c := 54) (by decide +kernel : zi 18 12 = some (.aload_n 0, 1)) rfl ⟨by omega, by omega⟩ ?_
  refine Fr.iconst (by decide +kernel : zi 18 13 = some (.iconst 0, 1)) (by decide) ?_
  refine Fr.pI (c := 53) (ci := 2) (k := 9) 9 (by decide +kernel : zi 18 14 = some (.putfield 34, 3)) (by decide +kernel) (by decide +kernel) (by decide +kernel) (by omega) rfl ?_
  refine Fr.aldn (c := 54) (by decide +kernel : zi 18 17 = some (.aload_n 0, 1)) rfl ⟨by omega, by omega⟩ ?_
  refine Fr.callV (y2 := 29) (na := 1) (as := [rf 54]) (rest := []) (by decide +kernel : zi 18 18 = some (.invokevirtual 37, 3)) rfl (by decide +kernel) (by decide +kernel) rfl rfl (zok_V rfl (by decide) (by decide +kernel) (by decide +kernel) (zrecv_c (c := 53) (by omega) (by decide +kernel)) rfl (Nat.le_of_ble_eq_true rfl)) h (fun s3 h => ?_)
  refine Fr.aldn (c := 54) (by decide +kernel : zi 18 21 = some (.aload_n 0, 1)) rfl ⟨by omega, by omega⟩ ?_
  refine Fr.iconst (by decide +kernel : zi 18 22 = some (.iconst 0, 1)) (by decide) ?_
  refine Fr.pI (c := 53) (ci := 2) (k := 5) 5 (by decide +kernel : zi 18 23 = some (.putfield 40, 3)) (by decide +kernel) (by decide +kernel) (by decide +kernel) (by omega) rfl ?_
  refine Fr.aldn (c := 54) (by decide +kernel : zi 18 26 = some (.aload_n 0, 1)) rfl ⟨by omega, by omega⟩ ?_
  refine Fr.callV (y2 := 28) (na := 1) (as := [rf 54]) (rest := []) (by decide +kernel : zi 18 27 = some (.invokevirtual 43, 3)) rfl (by decide +kernel) (by decide +kernel) rfl rfl (zok_V rfl (by decide) (by decide +kernel) (by decide +kernel) (zrecv_c (c := 53) (by omega) (by decide +kernel)) rfl (Nat.le_of_ble_eq_true rfl)) h (fun s4 h => ?_)
  refine Fr.iconst (by decide +kernel : zi 18 30 = some (.iconst 0, 1)) (by decide) ?_
  refine Fr.istn (lv2 := [some (rf 54), some (rf (21 + 4 * t1 + 1)), some (it 0)]) (by decide +kernel : zi 18 31 = some (.istore_n 2, 1)) (Nat.le_of_ble_eq_true rfl) rfl ?_
  exact h
theorem e18 {xs : Nat → Int} {L : Nat} {T : List (Nat × Int × Int)} {n : Nat} {d : Nat} {t1 : Nat} {s : Pl} {Q : Option AV → Pl → Prop} (hd : 1 ≤ d) (k : Fr xs L T n (d - 1) 18 0 [some (rf 54), some (rf (21 + 4 * t1 + 1)), none] [] s Q) : Ev xs L T n d 18 [rf 54, rf (21 + 4 * t1 + 1)] s Q := Ev.of (by decide) _ rfl hd k
theorem f18_32 {xs : Nat → Int} {L : Nat} {T : List (Nat × Int × Int)} {n : Nat} {d : Nat} {t1 : Nat} {v2 : Int} {s : Pl} {P : Int → Pl → Prop} (hK : KR T n) (ht1 : t1 < 6) (h : ((2 < v2 → ((¬ s 53 6 = 300 → P (s 53 7) s) ∧ (¬ (¬ s 53 6 = 300) → P (-1) s))) ∧ (¬ (2 < v2) → Ev xs L T n d 19 [rf 54, it v2] s (qi fun r2 s1 => ((¬ r2 = 0 → Fr xs L T n d 18 32 [some (rf 54), some (rf (21 + 4 * t1 + 1)), some (it (zw (v2 + 1)))] [] s1 (qi P)) ∧ (¬ (¬ r2 = 0) → P (s1 53 7) s1)))))) : Fr xs L T n d 18 32 [some (rf 54), some (rf (21 + 4 * t1 + 1)), some (it v2)] [] s (qi P) := by
  have hn := hK.1
  refine Fr.ildn (by decide +kernel : zi 18 32 = some (.iload_n 2, 1)) rfl ?_
  refine Fr.iconst (by decide +kernel : zi 18 33 = some (.iconst 2, 1)) (by decide) ?_
  refine Fr.if2 (q := 56) (by decide +kernel : zi 18 34 = some (.if_icmp .gt 22, 3)) (by decide +kernel) (fun g9 => ?_) (fun g9 => ?_)
  · have h := h.1 g9
    refine Fr.aldn (c := 54) (by decide +kernel : zi 18 56 = some (.aload_n 0, 1)) rfl ⟨by omega, by omega⟩ ?_
    refine Fr.gI (c := 53) (ci := 2) (k := 6) (t := 0) 6 (by decide +kernel : zi 18 57 = some (.getfield 53, 3)) (by decide +kernel) (by decide +kernel) (by decide +kernel) (by omega) rfl ?_
    refine Fr.sipush (by decide +kernel : zi 18 60 = some (.sipush 300, 3)) (by decide) ?_
    refine Fr.if2 (q := 70) (by decide +kernel : zi 18 63 = some (.if_icmp .ne 7, 3)) (by decide +kernel) (fun g9 => ?_) (fun g9 => ?_)
    · have h := h.1 g9
      refine Fr.aldn (c := 54) (by decide +kernel : zi 18 70 = some (.aload_n 0, 1)) rfl ⟨by omega, by omega⟩ ?_
      refine Fr.gI (c := 53) (ci := 2) (k := 7) (t := 0) 7 (by decide +kernel : zi 18 71 = some (.getfield 50, 3)) (by decide +kernel) (by decide +kernel) (by decide +kernel) (by omega) rfl ?_
      exact Fr.retI (by decide +kernel : zi 18 74 = some (.ireturn, 1)) (by decide +kernel) h
    · have h := h.2 g9
      refine Fr.iconst (by decide +kernel : zi 18 66 = some (.iconst (-1), 1)) (by decide) ?_
      refine Fr.goto (q := 74) (by decide +kernel : zi 18 67 = some (.goto 7, 3)) (by decide +kernel) ?_
      exact Fr.retI (by decide +kernel : zi 18 74 = some (.ireturn, 1)) (by decide +kernel) h
  · have h := h.2 g9
    refine Fr.aldn (c := 54) (by decide +kernel : zi 18 37 = some (.aload_n 0, 1)) rfl ⟨by omega, by omega⟩ ?_
    refine Fr.ildn (by decide +kernel : zi 18 38 = some (.iload_n 2, 1)) rfl ?_
    refine Fr.callI (y2 := 19) (na := 2) (as := [rf 54, it v2]) (rest := []) (by decide +kernel : zi 18 39 = some (.invokevirtual 46, 3)) rfl (by decide +kernel) (by decide +kernel) rfl rfl (zok_V rfl (by decide) (by decide +kernel) (by decide +kernel) (zrecv_c (c := 53) (by omega) (by decide +kernel)) rfl (Nat.le_of_ble_eq_true rfl)) h (fun r2 s1 h => ?_)
    refine Fr.if0 (q := 50) (by decide +kernel : zi 18 42 = some (.ifCond .ne 8, 3)) (by decide +kernel) (fun g9 => ?_) (fun g9 => ?_)
    · have h := h.1 g9
      refine Fr.iinc (lv2 := [some (rf 54), some (rf (21 + 4 * t1 + 1)), some (it (zw (v2 + 1)))]) (by decide +kernel : zi 18 50 = some (.iinc 2 1, 3)) (Nat.le_of_ble_eq_true rfl) rfl rfl ?_
      refine Fr.goto (q := 32) (by decide +kernel : zi 18 53 = some (.goto (-21), 3)) (by decide +kernel) ?_
      exact h
    · have h := h.2 g9
      refine Fr.aldn (c := 54) (by decide +kernel : zi 18 45 = some (.aload_n 0, 1)) rfl ⟨by omega, by omega⟩ ?_
      refine Fr.gI (c := 53) (ci := 2) (k := 7) (t := 0) 7 (by decide +kernel : zi 18 46 = some (.getfield 50, 3)) (by decide +kernel) (by decide +kernel) (by decide +kernel) (by omega) rfl ?_
      exact Fr.retI (by decide +kernel : zi 18 49 = some (.ireturn, 1)) (by decide +kernel) h
-- 19 X2_standsPart
theorem f19_0 {xs : Nat → Int} {L : Nat} {T : List (Nat × Int × Int)} {n : Nat} {d : Nat} {v1 : Int} {s : Pl} {P : Int → Pl → Prop} (hK : KR T n) (h : ((s 53 6 = zw (6 + v1) → Ev xs L T n d 28 [rf 54] s (qv fun s1 => Ev xs L T n d 20 [rf 54] s1 (qi fun r3 s2 => ((r3 = 0 → P 0 s2) ∧ (¬ (r3 = 0) → ((s2 53 6 = 59 → ∃ tq4 : Nat, tq4 < 6 ∧ s2 53 8 = ((21 + 4 * tq4 + 1 : Nat) : Int) ∧ Ev xs L T n d 12 [rf (21 + 4 * tq4 + 1), it v1] s2 (qv fun s5 => Ev xs L T n d 28 [rf 54] s5 (qv fun s6 => P 1 s6))) ∧ (¬ (s2 53 6 = 59) → P 0 s2))))))) ∧ (¬ (s 53 6 = zw (6 + v1)) → P 0 s))) : Fr xs L T n d 19 0 [some (rf 54), some (it v1)] [] s (qi P) := by
  have hn := hK.1
  refine Fr.aldn (c := 54) (by decide +kernel : zi 19 0 = some (.aload_n 0, 1)) rfl ⟨by omega, by omega⟩ ?_
  refine Fr.gI (c := 53) (ci := 2) (k := 6) (t := 0) 6 (by decide +kernel : zi 19 1 = some (.getfield 53, 3)) (by decide +kernel) (by decide +kernel) (by decide +kernel) (by omega) rfl ?_
  refine Fr.bipush (by decide +kernel : zi 19 4 = some (.bipush 6, 2)) (by decide) ?_
  refine Fr.ildn (by decide +kernel : zi 19 6 = some (.iload_n 1, 1)) rfl ?_
  refine Fr.iadd (by decide +kernel : zi 19 7 = some (.iadd, 1)) ?_
  refine Fr.if2 (q := 13) (by decide +kernel : zi 19 8 = some (.if_icmp .eq 5, 3)) (by decide +kernel) (fun g9 => ?_) (fun g9 => ?_)
  · have h := h.1 g9
    refine Fr.aldn (c := 54) (by decide +kernel : zi 19 13 = some (.aload_n 0, 1)) rfl ⟨by omega, by omega⟩ ?_
    refine Fr.callV (y2 := 28) (na := 1) (as := [rf 54]) (rest := []) (by decide +kernel : zi 19 14 = some (.invokevirtual 43, 3)) rfl (by decide +kernel) (by decide +kernel) rfl rfl (zok_V rfl (by decide) (by decide +kernel) (by decide +kernel) (zrecv_c (c := 53) (by omega) (by decide +kernel)) rfl (Nat.le_of_ble_eq_true rfl)) h (fun s1 h => ?_)
    refine Fr.aldn (c := 54) (by decide +kernel : zi 19 17 = some (.aload_n 0, 1)) rfl ⟨by omega, by omega⟩ ?_
    refine Fr.callI (y2 := 20) (na := 1) (as := [rf 54]) (rest := []) (by decide +kernel : zi 19 18 = some (.invokevirtual 56, 3)) rfl (by decide +kernel) (by decide +kernel) rfl rfl (zok_V rfl (by decide) (by decide +kernel) (by decide +kernel) (zrecv_c (c := 53) (by omega) (by decide +kernel)) rfl (Nat.le_of_ble_eq_true rfl)) h (fun r3 s2 h => ?_)
    refine Fr.if0 (q := 33) (by decide +kernel : zi 19 21 = some (.ifCond .eq 12, 3)) (by decide +kernel) (fun g9 => ?_) (fun g9 => ?_)
    · have h := h.1 g9
      refine Fr.iconst (by decide +kernel : zi 19 33 = some (.iconst 0, 1)) (by decide) ?_
      exact Fr.retZ (by decide +kernel : zi 19 34 = some (.ireturn, 1)) (by decide +kernel) (by decide) h
    · have h := h.2 g9
      refine Fr.aldn (c := 54) (by decide +kernel : zi 19 24 = some (.aload_n 0, 1)) rfl ⟨by omega, by omega⟩ ?_
      refine Fr.gI (c := 53) (ci := 2) (k := 6) (t := 0) 6 (by decide +kernel : zi 19 25 = some (.getfield 53, 3)) (by decide +kernel) (by decide +kernel) (by decide +kernel) (by omega) rfl ?_
      refine Fr.bipush (by decide +kernel : zi 19 28 = some (.bipush 59, 2)) (by decide) ?_
      refine Fr.if2 (q := 35) (by decide +kernel : zi 19 30 = some (.if_icmp .eq 5, 3)) (by decide +kernel) (fun g9 => ?_) (fun g9 => ?_)
      · have h := h.1 g9
        refine Fr.aldn (c := 54) (by decide +kernel : zi 19 35 = some (.aload_n 0, 1)) rfl ⟨by omega, by omega⟩ ?_
        obtain ⟨tq4, htq4, g0, h⟩ := h
        refine Fr.gR (c := 53) (c2 := (21 + 4 * tq4 + 1)) (ci := 2) (k := 8) 8 (by decide +kernel : zi 19 36 = some (.getfield 21, 3)) (by decide +kernel) (by decide +kernel) (by decide +kernel) (by omega) rfl (fun _ => g0) ?_
        refine Fr.ildn (by decide +kernel : zi 19 39 = some (.iload_n 1, 1)) rfl ?_
        refine Fr.callV (y2 := 12) (na := 2) (as := [rf (21 + 4 * tq4 + 1), it v1]) (rest := []) (by decide +kernel : zi 19 40 = some (.invokevirtual 60, 3)) rfl (by decide +kernel) (by decide +kernel) rfl rfl (zok_V rfl (by decide) (by decide +kernel) (by decide +kernel) (zrecv_c (c := (21 + 4 * tq4)) (by omega) (by rw [(zlaw_sh _ htq4).1]; decide +kernel)) rfl (Nat.le_of_ble_eq_true rfl)) h (fun s5 h => ?_)
        refine Fr.aldn (c := 54) (by decide +kernel : zi 19 43 = some (.aload_n 0, 1)) rfl ⟨by omega, by omega⟩ ?_
        refine Fr.callV (y2 := 28) (na := 1) (as := [rf 54]) (rest := []) (by decide +kernel : zi 19 44 = some (.invokevirtual 43, 3)) rfl (by decide +kernel) (by decide +kernel) rfl rfl (zok_V rfl (by decide) (by decide +kernel) (by decide +kernel) (zrecv_c (c := 53) (by omega) (by decide +kernel)) rfl (Nat.le_of_ble_eq_true rfl)) h (fun s6 h => ?_)
        refine Fr.iconst (by decide +kernel : zi 19 47 = some (.iconst 1, 1)) (by decide) ?_
        exact Fr.retZ (by decide +kernel : zi 19 48 = some (.ireturn, 1)) (by decide +kernel) (by decide) h
      · have h := h.2 g9
        refine Fr.iconst (by decide +kernel : zi 19 33 = some (.iconst 0, 1)) (by decide) ?_
        exact Fr.retZ (by decide +kernel : zi 19 34 = some (.ireturn, 1)) (by decide +kernel) (by decide) h
  · have h := h.2 g9
    refine Fr.iconst (by decide +kernel : zi 19 11 = some (.iconst 0, 1)) (by decide) ?_
    exact Fr.retZ (by decide +kernel : zi 19 12 = some (.ireturn, 1)) (by decide +kernel) (by decide) h
theorem e19 {xs : Nat → Int} {L : Nat} {T : List (Nat × Int × Int)} {n : Nat} {d : Nat} {v1 : Int} {s : Pl} {Q : Option AV → Pl → Prop} (hd : 1 ≤ d) (k : Fr xs L T n (d - 1) 19 0 [some (rf 54), some (it v1)] [] s Q) : Ev xs L T n d 19 [rf 54, it v1] s Q := Ev.of (by decide) _ rfl hd k
-- 20 X2_standsE
theorem f20_0 {xs : Nat → Int} {L : Nat} {T : List (Nat × Int × Int)} {n : Nat} {d : Nat}  {s : Pl} {P : Int → Pl → Prop} (hK : KR T n) (h : Ev xs L T n d 21 [rf 54] s (qi fun r2 s1 => Fr xs L T n d 20 7 [some (rf 54), some (it r2), some (it 0)] [] s1 (qi P))) : Fr xs L T n d 20 0 [some (rf 54), none, none] [] s (qi P) := by
  have hn := hK.1
  refine Fr.aldn (c := 54) (by decide +kernel : zi 20 0 = some (.aload_n 0, 1)) rfl ⟨by omega, by omega⟩ ?_
  refine Fr.callI (y2 := 21) (na := 1) (as := [rf 54]) (rest := []) (by decide +kernel : zi 20 1 = some (.invokevirtual 64, 3)) rfl (by decide +kernel) (by decide +kernel) rfl rfl (zok_V rfl (by decide) (by decide +kernel) (by decide +kernel) (zrecv_c (c := 53) (by omega) (by decide +kernel)) rfl (Nat.le_of_ble_eq_true rfl)) h (fun r2 s1 h => ?_)
  refine Fr.istn (lv2 := [some (rf 54), some (it r2), none]) (by decide +kernel : zi 20 4 = some (.istore_n 1, 1)) (Nat.le_of_ble_eq_true rfl) rfl ?_
  refine Fr.iconst (by decide +kernel : zi 20 5 = some (.iconst 0, 1)) (by decide) ?_
  refine Fr.istn (lv2 := [some (rf 54), some (it r2), some (it 0)]) (by decide +kernel : zi 20 6 = some (.istore_n 2, 1)) (Nat.le_of_ble_eq_true rfl) rfl ?_
  exact h
theorem e20 {xs : Nat → Int} {L : Nat} {T : List (Nat × Int × Int)} {n : Nat} {d : Nat}  {s : Pl} {Q : Option AV → Pl → Prop} (hd : 1 ≤ d) (k : Fr xs L T n (d - 1) 20 0 [some (rf 54), none, none] [] s Q) : Ev xs L T n d 20 [rf 54] s Q := Ev.of (by decide) _ rfl hd k
theorem f20_7 {xs : Nat → Int} {L : Nat} {T : List (Nat × Int × Int)} {n : Nat} {d : Nat} {v1 : Int} {v2 : Int} {s : Pl} {P : Int → Pl → Prop} (hK : KR T n) (h : ((160 ≤ v2 → ((v1 = 0 ∨ v1 = 1) ∧ P v1 s)) ∧ (¬ (160 ≤ v2) → ((v1 = 0 → ((v1 = 0 ∨ v1 = 1) ∧ P v1 s)) ∧ (¬ (v1 = 0) → ((¬ s 53 6 = 9 → ((v1 = 0 ∨ v1 = 1) ∧ P v1 s)) ∧ (¬ (¬ s 53 6 = 9) → Ev xs L T n d 28 [rf 54] s (qv fun s1 => Ev xs L T n d 21 [rf 54] s1 (qi fun r3 s2 => ∃ tq4 : Nat, tq4 < 6 ∧ s2 53 8 = ((21 + 4 * tq4 + 1 : Nat) : Int) ∧ Ev xs L T n d 11 [rf (21 + 4 * tq4 + 1), it (-10)] s2 (qv fun s5 => Fr xs L T n d 20 7 [some (rf 54), some (it r3), some (it (zw (v2 + 1)))] [] s5 (qi P))))))))))) : Fr xs L T n d 20 7 [some (rf 54), some (it v1), some (it v2)] [] s (qi P) := by
  have hn := hK.1
  refine Fr.ildn (by decide +kernel : zi 20 7 = some (.iload_n 2, 1)) rfl ?_
  refine Fr.sipush (by decide +kernel : zi 20 8 = some (.sipush 160, 3)) (by decide) ?_
  refine Fr.if2 (q := 51) (by decide +kernel : zi 20 11 = some (.if_icmp .ge 40, 3)) (by decide +kernel) (fun g9 => ?_) (fun g9 => ?_)
  · have h := h.1 g9
    refine Fr.ildn (by decide +kernel : zi 20 51 = some (.iload_n 1, 1)) rfl ?_
    exact Fr.retZ (by decide +kernel : zi 20 52 = some (.ireturn, 1)) (by decide +kernel) h.1 h.2
  · have h := h.2 g9
    refine Fr.ildn (by decide +kernel : zi 20 14 = some (.iload_n 1, 1)) rfl ?_
    refine Fr.if0 (q := 51) (by decide +kernel : zi 20 15 = some (.ifCond .eq 36, 3)) (by decide +kernel) (fun g9 => ?_) (fun g9 => ?_)
    · have h := h.1 g9
      refine Fr.ildn (by decide +kernel : zi 20 51 = some (.iload_n 1, 1)) rfl ?_
      exact Fr.retZ (by decide +kernel : zi 20 52 = some (.ireturn, 1)) (by decide +kernel) h.1 h.2
    · have h := h.2 g9
      refine Fr.aldn (c := 54) (by decide +kernel : zi 20 18 = some (.aload_n 0, 1)) rfl ⟨by omega, by omega⟩ ?_
      refine Fr.gI (c := 53) (ci := 2) (k := 6) (t := 0) 6 (by decide +kernel : zi 20 19 = some (.getfield 53, 3)) (by decide +kernel) (by decide +kernel) (by decide +kernel) (by omega) rfl ?_
      refine Fr.bipush (by decide +kernel : zi 20 22 = some (.bipush 9, 2)) (by decide) ?_
      refine Fr.if2 (q := 51) (by decide +kernel : zi 20 24 = some (.if_icmp .ne 27, 3)) (by decide +kernel) (fun g9 => ?_) (fun g9 => ?_)
      · have h := h.1 g9
        refine Fr.ildn (by decide +kernel : zi 20 51 = some (.iload_n 1, 1)) rfl ?_
        exact Fr.retZ (by decide +kernel : zi 20 52 = some (.ireturn, 1)) (by decide +kernel) h.1 h.2
      · have h := h.2 g9
        refine Fr.aldn (c := 54) (by decide +kernel : zi 20 27 = some (.aload_n 0, 1)) rfl ⟨by omega, by omega⟩ ?_
        refine Fr.callV (y2 := 28) (na := 1) (as := [rf 54]) (rest := []) (by decide +kernel : zi 20 28 = some (.invokevirtual 43, 3)) rfl (by decide +kernel) (by decide +kernel) rfl rfl (zok_V rfl (by decide) (by decide +kernel) (by decide +kernel) (zrecv_c (c := 53) (by omega) (by decide +kernel)) rfl (Nat.le_of_ble_eq_true rfl)) h (fun s1 h => ?_)
        refine Fr.aldn (c := 54) (by decide +kernel : zi 20 31 = some (.aload_n 0, 1)) rfl ⟨by omega, by omega⟩ ?_
        refine Fr.callI (y2 := 21) (na := 1) (as := [rf 54]) (rest := []) (by decide +kernel : zi 20 32 = some (.invokevirtual 64, 3)) rfl (by decide +kernel) (by decide +kernel) rfl rfl (zok_V rfl (by decide) (by decide +kernel) (by decide +kernel) (zrecv_c (c := 53) (by omega) (by decide +kernel)) rfl (Nat.le_of_ble_eq_true rfl)) h (fun r3 s2 h => ?_)
        refine Fr.istn (lv2 := [some (rf 54), some (it r3), some (it v2)]) (by decide +kernel : zi 20 35 = some (.istore_n 1, 1)) (Nat.le_of_ble_eq_true rfl) rfl ?_
        refine Fr.aldn (c := 54) (by decide +kernel : zi 20 36 = some (.aload_n 0, 1)) rfl ⟨by omega, by omega⟩ ?_
        obtain ⟨tq4, htq4, g0, h⟩ := h
        refine Fr.gR (c := 53) (c2 := (21 + 4 * tq4 + 1)) (ci := 2) (k := 8) 8 (by decide +kernel : zi 20 37 = some (.getfield 21, 3)) (by decide +kernel) (by decide +kernel) (by decide +kernel) (by omega) rfl (fun _ => g0) ?_
        refine Fr.bipush (by decide +kernel : zi 20 40 = some (.bipush (-10), 2)) (by decide) ?_
        refine Fr.callV (y2 := 11) (na := 2) (as := [rf (21 + 4 * tq4 + 1), it (-10)]) (rest := []) (by decide +kernel : zi 20 42 = some (.invokevirtual 67, 3)) rfl (by decide +kernel) (by decide +kernel) rfl rfl (zok_V rfl (by decide) (by decide +kernel) (by decide +kernel) (zrecv_c (c := (21 + 4 * tq4)) (by omega) (by rw [(zlaw_sh _ htq4).1]; decide +kernel)) rfl (Nat.le_of_ble_eq_true rfl)) h (fun s5 h => ?_)
        refine Fr.iinc (lv2 := [some (rf 54), some (it r3), some (it (zw (v2 + 1)))]) (by decide +kernel : zi 20 45 = some (.iinc 2 1, 3)) (Nat.le_of_ble_eq_true rfl) rfl rfl ?_
        refine Fr.goto (q := 7) (by decide +kernel : zi 20 48 = some (.goto (-41), 3)) (by decide +kernel) ?_
        exact h
-- 21 X2_standsAnd
theorem f21_0 {xs : Nat → Int} {L : Nat} {T : List (Nat × Int × Int)} {n : Nat} {d : Nat}  {s : Pl} {P : Int → Pl → Prop} (hK : KR T n) (h : Ev xs L T n d 22 [rf 54] s (qi fun r2 s1 => Fr xs L T n d 21 7 [some (rf 54), some (it r2), some (it 0)] [] s1 (qi P))) : Fr xs L T n d 21 0 [some (rf 54), none, none] [] s (qi P) := by
  have hn := hK.1
  refine Fr.aldn (c := 54) (by decide +kernel : zi 21 0 = some (.aload_n 0, 1)) rfl ⟨by omega, by omega⟩ ?_
  refine Fr.callI (y2 := 22) (na := 1) (as := [rf 54]) (rest := []) (by decide +kernel : zi 21 1 = some (.invokevirtual 70, 3)) rfl (by decide +kernel) (by decide +kernel) rfl rfl (zok_V rfl (by decide) (by decide +kernel) (by decide +kernel) (zrecv_c (c := 53) (by omega) (by decide +kernel)) rfl (Nat.le_of_ble_eq_true rfl)) h (fun r2 s1 h => ?_)
  refine Fr.istn (lv2 := [some (rf 54), some (it r2), none]) (by decide +kernel : zi 21 4 = some (.istore_n 1, 1)) (Nat.le_of_ble_eq_true rfl) rfl ?_
  refine Fr.iconst (by decide +kernel : zi 21 5 = some (.iconst 0, 1)) (by decide) ?_
  refine Fr.istn (lv2 := [some (rf 54), some (it r2), some (it 0)]) (by decide +kernel : zi 21 6 = some (.istore_n 2, 1)) (Nat.le_of_ble_eq_true rfl) rfl ?_
  exact h
theorem e21 {xs : Nat → Int} {L : Nat} {T : List (Nat × Int × Int)} {n : Nat} {d : Nat}  {s : Pl} {Q : Option AV → Pl → Prop} (hd : 1 ≤ d) (k : Fr xs L T n (d - 1) 21 0 [some (rf 54), none, none] [] s Q) : Ev xs L T n d 21 [rf 54] s Q := Ev.of (by decide) _ rfl hd k
theorem f21_7 {xs : Nat → Int} {L : Nat} {T : List (Nat × Int × Int)} {n : Nat} {d : Nat} {v1 : Int} {v2 : Int} {s : Pl} {P : Int → Pl → Prop} (hK : KR T n) (h : ((160 ≤ v2 → ((v1 = 0 ∨ v1 = 1) ∧ P v1 s)) ∧ (¬ (160 ≤ v2) → ((v1 = 0 → ((v1 = 0 ∨ v1 = 1) ∧ P v1 s)) ∧ (¬ (v1 = 0) → ((¬ s 53 6 = 10 → ((v1 = 0 ∨ v1 = 1) ∧ P v1 s)) ∧ (¬ (¬ s 53 6 = 10) → Ev xs L T n d 28 [rf 54] s (qv fun s1 => Ev xs L T n d 22 [rf 54] s1 (qi fun r3 s2 => ∃ tq4 : Nat, tq4 < 6 ∧ s2 53 8 = ((21 + 4 * tq4 + 1 : Nat) : Int) ∧ Ev xs L T n d 11 [rf (21 + 4 * tq4 + 1), it (-11)] s2 (qv fun s5 => Fr xs L T n d 21 7 [some (rf 54), some (it r3), some (it (zw (v2 + 1)))] [] s5 (qi P))))))))))) : Fr xs L T n d 21 7 [some (rf 54), some (it v1), some (it v2)] [] s (qi P) := by
  have hn := hK.1
  refine Fr.ildn (by decide +kernel : zi 21 7 = some (.iload_n 2, 1)) rfl ?_
  refine Fr.sipush (by decide +kernel : zi 21 8 = some (.sipush 160, 3)) (by decide) ?_
  refine Fr.if2 (q := 51) (by decide +kernel : zi 21 11 = some (.if_icmp .ge 40, 3)) (by decide +kernel) (fun g9 => ?_) (fun g9 => ?_)
  · have h := h.1 g9
    refine Fr.ildn (by decide +kernel : zi 21 51 = some (.iload_n 1, 1)) rfl ?_
    exact Fr.retZ (by decide +kernel : zi 21 52 = some (.ireturn, 1)) (by decide +kernel) h.1 h.2
  · have h := h.2 g9
    refine Fr.ildn (by decide +kernel : zi 21 14 = some (.iload_n 1, 1)) rfl ?_
    refine Fr.if0 (q := 51) (by decide +kernel : zi 21 15 = some (.ifCond .eq 36, 3)) (by decide +kernel) (fun g9 => ?_) (fun g9 => ?_)
    · have h := h.1 g9
      refine Fr.ildn (by decide +kernel : zi 21 51 = some (.iload_n 1, 1)) rfl ?_
      exact Fr.retZ (by decide +kernel : zi 21 52 = some (.ireturn, 1)) (by decide +kernel) h.1 h.2
    · have h := h.2 g9
      refine Fr.aldn (c := 54) (by decide +kernel : zi 21 18 = some (.aload_n 0, 1)) rfl ⟨by omega, by omega⟩ ?_
      refine Fr.gI (c := 53) (ci := 2) (k := 6) (t := 0) 6 (by decide +kernel : zi 21 19 = some (.getfield 53, 3)) (by decide +kernel) (by decide +kernel) (by decide +kernel) (by omega) rfl ?_
      refine Fr.bipush (by decide +kernel : zi 21 22 = some (.bipush 10, 2)) (by decide) ?_
      refine Fr.if2 (q := 51) (by decide +kernel : zi 21 24 = some (.if_icmp .ne 27, 3)) (by decide +kernel) (fun g9 => ?_) (fun g9 => ?_)
      · have h := h.1 g9
        refine Fr.ildn (by decide +kernel : zi 21 51 = some (.iload_n 1, 1)) rfl ?_
        exact Fr.retZ (by decide +kernel : zi 21 52 = some (.ireturn, 1)) (by decide +kernel) h.1 h.2
      · have h := h.2 g9
        refine Fr.aldn (c := 54) (by decide +kernel : zi 21 27 = some (.aload_n 0, 1)) rfl ⟨by omega, by omega⟩ ?_
        refine Fr.callV (y2 := 28) (na := 1) (as := [rf 54]) (rest := []) (by decide +kernel : zi 21 28 = some (.invokevirtual 43, 3)) rfl (by decide +kernel) (by decide +kernel) rfl rfl (zok_V rfl (by decide) (by decide +kernel) (by decide +kernel) (zrecv_c (c := 53) (by omega) (by decide +kernel)) rfl (Nat.le_of_ble_eq_true rfl)) h (fun s1 h => ?_)
        refine Fr.aldn (c := 54) (by decide +kernel : zi 21 31 = some (.aload_n 0, 1)) rfl ⟨by omega, by omega⟩ ?_
        refine Fr.callI (y2 := 22) (na := 1) (as := [rf 54]) (rest := []) (by decide +kernel : zi 21 32 = some (.invokevirtual 70, 3)) rfl (by decide +kernel) (by decide +kernel) rfl rfl (zok_V rfl (by decide) (by decide +kernel) (by decide +kernel) (zrecv_c (c := 53) (by omega) (by decide +kernel)) rfl (Nat.le_of_ble_eq_true rfl)) h (fun r3 s2 h => ?_)
        refine Fr.istn (lv2 := [some (rf 54), some (it r3), some (it v2)]) (by decide +kernel : zi 21 35 = some (.istore_n 1, 1)) (Nat.le_of_ble_eq_true rfl) rfl ?_
        refine Fr.aldn (c := 54) (by decide +kernel : zi 21 36 = some (.aload_n 0, 1)) rfl ⟨by omega, by omega⟩ ?_
        obtain ⟨tq4, htq4, g0, h⟩ := h
        refine Fr.gR (c := 53) (c2 := (21 + 4 * tq4 + 1)) (ci := 2) (k := 8) 8 (by decide +kernel : zi 21 37 = some (.getfield 21, 3)) (by decide +kernel) (by decide +kernel) (by decide +kernel) (by omega) rfl (fun _ => g0) ?_
        refine Fr.bipush (by decide +kernel : zi 21 40 = some (.bipush (-11), 2)) (by decide) ?_
        refine Fr.callV (y2 := 11) (na := 2) (as := [rf (21 + 4 * tq4 + 1), it (-11)]) (rest := []) (by decide +kernel : zi 21 42 = some (.invokevirtual 67, 3)) rfl (by decide +kernel) (by decide +kernel) rfl rfl (zok_V rfl (by decide) (by decide +kernel) (by decide +kernel) (zrecv_c (c := (21 + 4 * tq4)) (by omega) (by rw [(zlaw_sh _ htq4).1]; decide +kernel)) rfl (Nat.le_of_ble_eq_true rfl)) h (fun s5 h => ?_)
        refine Fr.iinc (lv2 := [some (rf 54), some (it r3), some (it (zw (v2 + 1)))]) (by decide +kernel : zi 21 45 = some (.iinc 2 1, 3)) (Nat.le_of_ble_eq_true rfl) rfl rfl ?_
        refine Fr.goto (q := 7) (by decide +kernel : zi 21 48 = some (.goto (-41), 3)) (by decide +kernel) ?_
        exact h
-- 22 X2_standsNot
theorem f22_0 {xs : Nat → Int} {L : Nat} {T : List (Nat × Int × Int)} {n : Nat} {d : Nat}  {s : Pl} {P : Int → Pl → Prop} (hK : KR T n) (h : ((¬ s 53 6 = 11 → Ev xs L T n d 23 [rf 54] s (qi fun r2 s1 => ((¬ r2 = 0 → ((s1 53 6 = 60 → Fr xs L T n d 22 74 [some (rf 54), some (it (s1 53 6))] [] s1 (qi P)) ∧ (¬ (s1 53 6 = 60) → ((s1 53 6 = 61 → Fr xs L T n d 22 74 [some (rf 54), some (it (s1 53 6))] [] s1 (qi P)) ∧ (¬ (s1 53 6 = 61) → P 1 s1))))) ∧ (¬ (¬ r2 = 0) → P 0 s1)))) ∧ (¬ (¬ s 53 6 = 11) → Ev xs L T n d 26 [rf 54] s (qi fun r4 s3 => ((r4 = 0 → P 0 s3) ∧ (¬ (r4 = 0) → Ev xs L T n d 22 [rf 54] s3 (qi fun r6 s5 => ((¬ r6 = 0 → ∃ tq7 : Nat, tq7 < 6 ∧ (zup s5 53 9 (zw ((s5 53 9) - 1))) 53 8 = ((21 + 4 * tq7 + 1 : Nat) : Int) ∧ Ev xs L T n d 11 [rf (21 + 4 * tq7 + 1), it (-12)] (zup s5 53 9 (zw ((s5 53 9) - 1))) (qv fun s8 => P 1 s8)) ∧ (¬ (¬ r6 = 0) → P 0 s5))))))))) : Fr xs L T n d 22 0 [some (rf 54), none] [] s (qi P) := by
  have hn := hK.1
  refine Fr.aldn (c := 54) (by decide +kernel : zi 22 0 = some (.aload_n 0, 1)) rfl ⟨by omega, by omega⟩ ?_
  refine Fr.gI (c := 53) (ci := 2) (k := 6) (t := 0) 6 (by decide +kernel : zi 22 1 = some (.getfield 53, 3)) (by decide +kernel) (by decide +kernel) (by decide +kernel) (by omega) rfl ?_
  refine Fr.bipush (by decide +kernel : zi 22 4 = some (.bipush 11, 2)) (by decide) ?_
  refine Fr.if2 (q := 46) (by decide +kernel : zi 22 6 = some (.if_icmp .ne 40, 3)) (by decide +kernel) (fun g9 => ?_) (fun g9 => ?_)
  · have h := h.1 g9
    refine Fr.aldn (c := 54) (by decide +kernel : zi 22 46 = some (.aload_n 0, 1)) rfl ⟨by omega, by omega⟩ ?_
    refine Fr.callI (y2 := 23) (na := 1) (as := [rf 54]) (rest := []) (by decide +kernel : zi 22 47 = some (.invokevirtual 76, 3)) rfl (by decide +kernel) (by decide +kernel) rfl rfl (zok_V rfl (by decide) (by decide +kernel) (by decide +kernel) (zrecv_c (c := 53) (by omega) (by decide +kernel)) rfl (Nat.le_of_ble_eq_true rfl)) h (fun r2 s1 h => ?_)
    refine Fr.if0 (q := 55) (by decide +kernel : zi 22 50 = some (.ifCond .ne 5, 3)) (by decide +kernel) (fun g9 => ?_) (fun g9 => ?_)
    · have h := h.1 g9
      refine Fr.aldn (c := 54) (by decide +kernel : zi 22 55 = some (.aload_n 0, 1)) rfl ⟨by omega, by omega⟩ ?_
      refine Fr.gI (c := 53) (ci := 2) (k := 6) (t := 0) 6 (by decide +kernel : zi 22 56 = some (.getfield 53, 3)) (by decide +kernel) (by decide +kernel) (by decide +kernel) (by omega) rfl ?_
      refine Fr.istn (lv2 := [some (rf 54), some (it (s1 53 6))]) (by decide +kernel : zi 22 59 = some (.istore_n 1, 1)) (Nat.le_of_ble_eq_true rfl) rfl ?_
      refine Fr.ildn (by decide +kernel : zi 22 60 = some (.iload_n 1, 1)) rfl ?_
      refine Fr.bipush (by decide +kernel : zi 22 61 = some (.bipush 60, 2)) (by decide) ?_
      refine Fr.if2 (q := 74) (by decide +kernel : zi 22 63 = some (.if_icmp .eq 11, 3)) (by decide +kernel) (fun g9 => ?_) (fun g9 => ?_)
      · have h := h.1 g9
        exact h
      · have h := h.2 g9
        refine Fr.ildn (by decide +kernel : zi 22 66 = some (.iload_n 1, 1)) rfl ?_
        refine Fr.bipush (by decide +kernel : zi 22 67 = some (.bipush 61, 2)) (by decide) ?_
        refine Fr.if2 (q := 74) (by decide +kernel : zi 22 69 = some (.if_icmp .eq 5, 3)) (by decide +kernel) (fun g9 => ?_) (fun g9 => ?_)
        · have h := h.1 g9
          exact h
        · have h := h.2 g9
          refine Fr.iconst (by decide +kernel : zi 22 72 = some (.iconst 1, 1)) (by decide) ?_
          exact Fr.retZ (by decide +kernel : zi 22 73 = some (.ireturn, 1)) (by decide +kernel) (by decide) h
    · have h := h.2 g9
      refine Fr.iconst (by decide +kernel : zi 22 53 = some (.iconst 0, 1)) (by decide) ?_
      exact Fr.retZ (by decide +kernel : zi 22 54 = some (.ireturn, 1)) (by decide +kernel) (by decide) h
  · have h := h.2 g9
    refine Fr.aldn (c := 54) (by decide +kernel : zi 22 9 = some (.aload_n 0, 1)) rfl ⟨by omega, by omega⟩ ?_
    refine Fr.callI (y2 := 26) (na := 1) (as := [rf 54]) (rest := []) (by decide +kernel : zi 22 10 = some (.invokevirtual 73, 3)) rfl (by decide +kernel) (by decide +kernel) rfl rfl (zok_V rfl (by decide) (by decide +kernel) (by decide +kernel) (zrecv_c (c := 53) (by omega) (by decide +kernel)) rfl (Nat.le_of_ble_eq_true rfl)) h (fun r4 s3 h => ?_)
    refine Fr.if0 (q := 23) (by decide +kernel : zi 22 13 = some (.ifCond .eq 10, 3)) (by decide +kernel) (fun g9 => ?_) (fun g9 => ?_)
    · have h := h.1 g9
      refine Fr.iconst (by decide +kernel : zi 22 23 = some (.iconst 0, 1)) (by decide) ?_
      exact Fr.retZ (by decide +kernel : zi 22 24 = some (.ireturn, 1)) (by decide +kernel) (by decide) h
    · have h := h.2 g9
      refine Fr.aldn (c := 54) (by decide +kernel : zi 22 16 = some (.aload_n 0, 1)) rfl ⟨by omega, by omega⟩ ?_
      refine Fr.callI (y2 := 22) (na := 1) (as := [rf 54]) (rest := []) (by decide +kernel : zi 22 17 = some (.invokevirtual 70, 3)) rfl (by decide +kernel) (by decide +kernel) rfl rfl (zok_V rfl (by decide) (by decide +kernel) (by decide +kernel) (zrecv_c (c := 53) (by omega) (by decide +kernel)) rfl (Nat.le_of_ble_eq_true rfl)) h (fun r6 s5 h => ?_)
      refine Fr.if0 (q := 25) (by decide +kernel : zi 22 20 = some (.ifCond .ne 5, 3)) (by decide +kernel) (fun g9 => ?_) (fun g9 => ?_)
      · have h := h.1 g9
        refine Fr.aldn (c := 54) (by decide +kernel : zi 22 25 = some (.aload_n 0, 1)) rfl ⟨by omega, by omega⟩ ?_
        refine Fr.dup (by decide +kernel : zi 22 26 = some (.dup, 1)) rfl ?_
        refine Fr.gI (c := 53) (ci := 2) (k := 9) (t := 0) 9 (by decide +kernel : zi 22 27 = some (.getfield 34, 3)) (by decide +kernel) (by decide +kernel) (by decide +kernel) (by omega) rfl ?_
        refine Fr.iconst (by decide +kernel : zi 22 30 = some (.iconst 1, 1)) (by decide) ?_
        refine Fr.isub (by decide +kernel : zi 22 31 = some (.isub, 1)) ?_
        refine Fr.pI (c := 53) (ci := 2) (k := 9) 9 (by decide +kernel : zi 22 32 = some (.putfield 34, 3)) (by decide +kernel) (by decide +kernel) (by decide +kernel) (by omega) rfl ?_
        refine Fr.aldn (c := 54) (by decide +kernel : zi 22 35 = some (.aload_n 0, 1)) rfl ⟨by omega, by omega⟩ ?_
        obtain ⟨tq7, htq7, g0, h⟩ := h
        refine Fr.gR (c := 53) (c2 := (21 + 4 * tq7 + 1)) (ci := 2) (k := 8) 8 (by decide +kernel : zi 22 36 = some (.getfield 21, 3)) (by decide +kernel) (by decide +kernel) (by decide +kernel) (by omega) rfl (fun _ => g0) ?_
        refine Fr.bipush (by decide +kernel : zi 22 39 = some (.bipush (-12), 2)) (by decide) ?_
        refine Fr.callV (y2 := 11) (na := 2) (as := [rf (21 + 4 * tq7 + 1), it (-12)]) (rest := []) (by decide +kernel : zi 22 41 = some (.invokevirtual 67, 3)) rfl (by decide +kernel) (by decide +kernel) rfl rfl (zok_V rfl (by decide) (by decide +kernel) (by decide +kernel) (zrecv_c (c := (21 + 4 * tq7)) (by omega) (by rw [(zlaw_sh _ htq7).1]; decide +kernel)) rfl (Nat.le_of_ble_eq_true rfl)) h (fun s8 h => ?_)
        refine Fr.iconst (by decide +kernel : zi 22 44 = some (.iconst 1, 1)) (by decide) ?_
        exact Fr.retZ (by decide +kernel : zi 22 45 = some (.ireturn, 1)) (by decide +kernel) (by decide) h
      · have h := h.2 g9
        refine Fr.iconst (by decide +kernel : zi 22 23 = some (.iconst 0, 1)) (by decide) ?_
        exact Fr.retZ (by decide +kernel : zi 22 24 = some (.ireturn, 1)) (by decide +kernel) (by decide) h
theorem e22 {xs : Nat → Int} {L : Nat} {T : List (Nat × Int × Int)} {n : Nat} {d : Nat}  {s : Pl} {Q : Option AV → Pl → Prop} (hd : 1 ≤ d) (k : Fr xs L T n (d - 1) 22 0 [some (rf 54), none] [] s Q) : Ev xs L T n d 22 [rf 54] s Q := Ev.of (by decide) _ rfl hd k
theorem f22_74 {xs : Nat → Int} {L : Nat} {T : List (Nat × Int × Int)} {n : Nat} {d : Nat} {v1 : Int} {s : Pl} {P : Int → Pl → Prop} (hK : KR T n) (h : Ev xs L T n d 28 [rf 54] s (qv fun s1 => Ev xs L T n d 23 [rf 54] s1 (qi fun r3 s2 => ((¬ r3 = 0 → ∃ tq4 : Nat, tq4 < 6 ∧ s2 53 8 = ((21 + 4 * tq4 + 1 : Nat) : Int) ∧ Ev xs L T n d 11 [rf (21 + 4 * tq4 + 1), it (zw (-v1))] s2 (qv fun s5 => P 1 s5)) ∧ (¬ (¬ r3 = 0) → P 0 s2))))) : Fr xs L T n d 22 74 [some (rf 54), some (it v1)] [] s (qi P) := by
  have hn := hK.1
  refine Fr.aldn (c := 54) (by decide +kernel : zi 22 74 = some (.aload_n 0, 1)) rfl ⟨by omega, by omega⟩ ?_
  refine Fr.callV (y2 := 28) (na := 1) (as := [rf 54]) (rest := []) (by decide +kernel : zi 22 75 = some (.invokevirtual 43, 3)) rfl (by decide +kernel) (by decide +kernel) rfl rfl (zok_V rfl (by decide) (by decide +kernel) (by decide +kernel) (zrecv_c (c := 53) (by omega) (by decide +kernel)) rfl (Nat.le_of_ble_eq_true rfl)) h (fun s1 h => ?_)
  refine Fr.aldn (c := 54) (by decide +kernel : zi 22 78 = some (.aload_n 0, 1)) rfl ⟨by omega, by omega⟩ ?_
  refine Fr.callI (y2 := 23) (na := 1) (as := [rf 54]) (rest := []) (by decide +kernel : zi 22 79 = some (.invokevirtual 76, 3)) rfl (by decide +kernel) (by decide +kernel) rfl rfl (zok_V rfl (by decide) (by decide +kernel) (by decide +kernel) (zrecv_c (c := 53) (by omega) (by decide +kernel)) rfl (Nat.le_of_ble_eq_true rfl)) h (fun r3 s2 h => ?_)
  refine Fr.if0 (q := 87) (by decide +kernel : zi 22 82 = some (.ifCond .ne 5, 3)) (by decide +kernel) (fun g9 => ?_) (fun g9 => ?_)
  · have h := h.1 g9
    refine Fr.aldn (c := 54) (by decide +kernel : zi 22 87 = some (.aload_n 0, 1)) rfl ⟨by omega, by omega⟩ ?_
    obtain ⟨tq4, htq4, g0, h⟩ := h
    refine Fr.gR (c := 53) (c2 := (21 + 4 * tq4 + 1)) (ci := 2) (k := 8) 8 (by decide +kernel : zi 22 88 = some (.getfield 21, 3)) (by decide +kernel) (by decide +kernel) (by decide +kernel) (by omega) rfl (fun _ => g0) ?_
    refine Fr.ildn (by decide +kernel : zi 22 91 = some (.iload_n 1, 1)) rfl ?_
    refine Fr.ineg (by decide +kernel : zi 22 92 = some (.ineg, 1)) ?_
    refine Fr.callV (y2 := 11) (na := 2) (as := [rf (21 + 4 * tq4 + 1), it (zw (-v1))]) (rest := []) (by decide +kernel : zi 22 93 = some (.invokevirtual 67, 3)) rfl (by decide +kernel) (by decide +kernel) rfl rfl (zok_V rfl (by decide) (by decide +kernel) (by decide +kernel) (zrecv_c (c := (21 + 4 * tq4)) (by omega) (by rw [(zlaw_sh _ htq4).1]; decide +kernel)) rfl (Nat.le_of_ble_eq_true rfl)) h (fun s5 h => ?_)
    refine Fr.iconst (by decide +kernel : zi 22 96 = some (.iconst 1, 1)) (by decide) ?_
    exact Fr.retZ (by decide +kernel : zi 22 97 = some (.ireturn, 1)) (by decide +kernel) (by decide) h
  · have h := h.2 g9
    refine Fr.iconst (by decide +kernel : zi 22 85 = some (.iconst 0, 1)) (by decide) ?_
    exact Fr.retZ (by decide +kernel : zi 22 86 = some (.ireturn, 1)) (by decide +kernel) (by decide) h
-- 23 X2_standsSum
theorem f23_0 {xs : Nat → Int} {L : Nat} {T : List (Nat × Int × Int)} {n : Nat} {d : Nat}  {s : Pl} {P : Int → Pl → Prop} (hK : KR T n) (h : Ev xs L T n d 24 [rf 54] s (qi fun r2 s1 => Fr xs L T n d 23 7 [some (rf 54), some (it r2), some (it 0), none] [] s1 (qi P))) : Fr xs L T n d 23 0 [some (rf 54), none, none, none] [] s (qi P) := by
  have hn := hK.1
  refine Fr.aldn (c := 54) (by decide +kernel : zi 23 0 = some (.aload_n 0, 1)) rfl ⟨by omega, by omega⟩ ?_
  refine Fr.callI (y2 := 24) (na := 1) (as := [rf 54]) (rest := []) (by decide +kernel : zi 23 1 = some (.invokevirtual 79, 3)) rfl (by decide +kernel) (by decide +kernel) rfl rfl (zok_V rfl (by decide) (by decide +kernel) (by decide +kernel) (zrecv_c (c := 53) (by omega) (by decide +kernel)) rfl (Nat.le_of_ble_eq_true rfl)) h (fun r2 s1 h => ?_)
  refine Fr.istn (lv2 := [some (rf 54), some (it r2), none, none]) (by decide +kernel : zi 23 4 = some (.istore_n 1, 1)) (Nat.le_of_ble_eq_true rfl) rfl ?_
  refine Fr.iconst (by decide +kernel : zi 23 5 = some (.iconst 0, 1)) (by decide) ?_
  refine Fr.istn (lv2 := [some (rf 54), some (it r2), some (it 0), none]) (by decide +kernel : zi 23 6 = some (.istore_n 2, 1)) (Nat.le_of_ble_eq_true rfl) rfl ?_
  exact h
theorem e23 {xs : Nat → Int} {L : Nat} {T : List (Nat × Int × Int)} {n : Nat} {d : Nat}  {s : Pl} {Q : Option AV → Pl → Prop} (hd : 1 ≤ d) (k : Fr xs L T n (d - 1) 23 0 [some (rf 54), none, none, none] [] s Q) : Ev xs L T n d 23 [rf 54] s Q := Ev.of (by decide) _ rfl hd k
theorem f23_7 {xs : Nat → Int} {L : Nat} {T : List (Nat × Int × Int)} {n : Nat} {d : Nat} {v1 : Int} {v2 : Int} {w3 : Option AV} {s : Pl} {P : Int → Pl → Prop} (hK : KR T n) (h : ((160 ≤ v2 → ((v1 = 0 ∨ v1 = 1) ∧ P v1 s)) ∧ (¬ (160 ≤ v2) → ((v1 = 0 → ((v1 = 0 ∨ v1 = 1) ∧ P v1 s)) ∧ (¬ (v1 = 0) → ((s 53 6 = 43 → Fr xs L T n d 23 36 [some (rf 54), some (it v1), some (it v2), w3] [] s (qi P)) ∧ (¬ (s 53 6 = 43) → ((¬ s 53 6 = 45 → ((v1 = 0 ∨ v1 = 1) ∧ P v1 s)) ∧ (¬ (¬ s 53 6 = 45) → Fr xs L T n d 23 36 [some (rf 54), some (it v1), some (it v2), w3] [] s (qi P)))))))))) : Fr xs L T n d 23 7 [some (rf 54), some (it v1), some (it v2), w3] [] s (qi P) := by
  have hn := hK.1
  refine Fr.ildn (by decide +kernel : zi 23 7 = some (.iload_n 2, 1)) rfl ?_
  refine Fr.sipush (by decide +kernel : zi 23 8 = some (.sipush 160, 3)) (by decide) ?_
  refine Fr.if2 (q := 65) (by decide +kernel : zi 23 11 = some (.if_icmp .ge 54, 3)) (by decide +kernel) (fun g9 => ?_) (fun g9 => ?_)
  · have h := h.1 g9
    refine Fr.ildn (by decide +kernel : zi 23 65 = some (.iload_n 1, 1)) rfl ?_
    exact Fr.retZ (by decide +kernel : zi 23 66 = some (.ireturn, 1)) (by decide +kernel) h.1 h.2
  · have h := h.2 g9
    refine Fr.ildn (by decide +kernel : zi 23 14 = some (.iload_n 1, 1)) rfl ?_
    refine Fr.if0 (q := 65) (by decide +kernel : zi 23 15 = some (.ifCond .eq 50, 3)) (by decide +kernel) (fun g9 => ?_) (fun g9 => ?_)
    · have h := h.1 g9
      refine Fr.ildn (by decide +kernel : zi 23 65 = some (.iload_n 1, 1)) rfl ?_
      exact Fr.retZ (by decide +kernel : zi 23 66 = some (.ireturn, 1)) (by decide +kernel) h.1 h.2
    · have h := h.2 g9
      refine Fr.aldn (c := 54) (by decide +kernel : zi 23 18 = some (.aload_n 0, 1)) rfl ⟨by omega, by omega⟩ ?_
      refine Fr.gI (c := 53) (ci := 2) (k := 6) (t := 0) 6 (by decide +kernel : zi 23 19 = some (.getfield 53, 3)) (by decide +kernel) (by decide +kernel) (by decide +kernel) (by omega) rfl ?_
      refine Fr.bipush (by decide +kernel : zi 23 22 = some (.bipush 43, 2)) (by decide) ?_
      refine Fr.if2 (q := 36) (by decide +kernel : zi 23 24 = some (.if_icmp .eq 12, 3)) (by decide +kernel) (fun g9 => ?_) (fun g9 => ?_)
      · have h := h.1 g9
        exact h
      · have h := h.2 g9
        refine Fr.aldn (c := 54) (by decide +kernel : zi 23 27 = some (.aload_n 0, 1)) rfl ⟨by omega, by omega⟩ ?_
        refine Fr.gI (c := 53) (ci := 2) (k := 6) (t := 0) 6 (by decide +kernel : zi 23 28 = some (.getfield 53, 3)) (by decide +kernel) (by decide +kernel) (by decide +kernel) (by omega) rfl ?_
        refine Fr.bipush (by decide +kernel : zi 23 31 = some (.bipush 45, 2)) (by decide) ?_
        refine Fr.if2 (q := 65) (by decide +kernel : zi 23 33 = some (.if_icmp .ne 32, 3)) (by decide +kernel) (fun g9 => ?_) (fun g9 => ?_)
        · have h := h.1 g9
          refine Fr.ildn (by decide +kernel : zi 23 65 = some (.iload_n 1, 1)) rfl ?_
          exact Fr.retZ (by decide +kernel : zi 23 66 = some (.ireturn, 1)) (by decide +kernel) h.1 h.2
        · have h := h.2 g9
          exact h
theorem f23_36 {xs : Nat → Int} {L : Nat} {T : List (Nat × Int × Int)} {n : Nat} {d : Nat} {v1 : Int} {v2 : Int} {w3 : Option AV} {s : Pl} {P : Int → Pl → Prop} (hK : KR T n) (h : Ev xs L T n d 28 [rf 54] s (qv fun s1 => Ev xs L T n d 24 [rf 54] s1 (qi fun r3 s2 => ∃ tq4 : Nat, tq4 < 6 ∧ s2 53 8 = ((21 + 4 * tq4 + 1 : Nat) : Int) ∧ Ev xs L T n d 11 [rf (21 + 4 * tq4 + 1), it (zw (-(s 53 6)))] s2 (qv fun s5 => Fr xs L T n d 23 7 [some (rf 54), some (it r3), some (it (zw (v2 + 1))), some (it (s 53 6))] [] s5 (qi P))))) : Fr xs L T n d 23 36 [some (rf 54), some (it v1), some (it v2), w3] [] s (qi P) := by
  have hn := hK.1
  refine Fr.aldn (c := 54) (by decide +kernel : zi 23 36 = some (.aload_n 0, 1)) rfl ⟨by omega, by omega⟩ ?_
  refine Fr.gI (c := 53) (ci := 2) (k := 6) (t := 0) 6 (by decide +kernel : zi 23 37 = some (.getfield 53, 3)) (by decide +kernel) (by decide +kernel) (by decide +kernel) (by omega) rfl ?_
  refine Fr.istn (lv2 := [some (rf 54), some (it v1), some (it v2), some (it (s 53 6))]) (by decide +kernel : zi 23 40 = some (.istore_n 3, 1)) (Nat.le_of_ble_eq_true rfl) rfl ?_
  refine Fr.aldn (c := 54) (by decide +kernel : zi 23 41 = some (.aload_n 0, 1)) rfl ⟨by omega, by omega⟩ ?_
  refine Fr.callV (y2 := 28) (na := 1) (as := [rf 54]) (rest := []) (by decide +kernel : zi 23 42 = some (.invokevirtual 43, 3)) rfl (by decide +kernel) (by decide +kernel) rfl rfl (zok_V rfl (by decide) (by decide +kernel) (by decide +kernel) (zrecv_c (c := 53) (by omega) (by decide +kernel)) rfl (Nat.le_of_ble_eq_true rfl)) h (fun s1 h => ?_)
  refine Fr.aldn (c := 54) (by decide +kernel : zi 23 45 = some (.aload_n 0, 1)) rfl ⟨by omega, by omega⟩ ?_
  refine Fr.callI (y2 := 24) (na := 1) (as := [rf 54]) (rest := []) (by decide +kernel : zi 23 46 = some (.invokevirtual 79, 3)) rfl (by decide +kernel) (by decide +kernel) rfl rfl (zok_V rfl (by decide) (by decide +kernel) (by decide +kernel) (zrecv_c (c := 53) (by omega) (by decide +kernel)) rfl (Nat.le_of_ble_eq_true rfl)) h (fun r3 s2 h => ?_)
  refine Fr.istn (lv2 := [some (rf 54), some (it r3), some (it v2), some (it (s 53 6))]) (by decide +kernel : zi 23 49 = some (.istore_n 1, 1)) (Nat.le_of_ble_eq_true rfl) rfl ?_
  refine Fr.aldn (c := 54) (by decide +kernel : zi 23 50 = some (.aload_n 0, 1)) rfl ⟨by omega, by omega⟩ ?_
  obtain ⟨tq4, htq4, g0, h⟩ := h
  refine Fr.gR (c := 53) (c2 := (21 + 4 * tq4 + 1)) (ci := 2) (k := 8) 8 (by decide +kernel : zi 23 51 = some (.getfield 21, 3)) (by decide +kernel) (by decide +kernel) (by decide +kernel) (by omega) rfl (fun _ => g0) ?_
  refine Fr.ildn (by decide +kernel : zi 23 54 = some (.iload_n 3, 1)) rfl ?_
  refine Fr.ineg (by decide +kernel : zi 23 55 = some (.ineg, 1)) ?_
  refine Fr.callV (y2 := 11) (na := 2) (as := [rf (21 + 4 * tq4 + 1), it (zw (-(s 53 6)))]) (rest := []) (by decide +kernel : zi 23 56 = some (.invokevirtual 67, 3)) rfl (by decide +kernel) (by decide +kernel) rfl rfl (zok_V rfl (by decide) (by decide +kernel) (by decide +kernel) (zrecv_c (c := (21 + 4 * tq4)) (by omega) (by rw [(zlaw_sh _ htq4).1]; decide +kernel)) rfl (Nat.le_of_ble_eq_true rfl)) h (fun s5 h => ?_)
  refine Fr.iinc (lv2 := [some (rf 54), some (it r3), some (it (zw (v2 + 1))), some (it (s 53 6))]) (by decide +kernel : zi 23 59 = some (.iinc 2 1, 3)) (Nat.le_of_ble_eq_true rfl) rfl rfl ?_
  refine Fr.goto (q := 7) (by decide +kernel : zi 23 62 = some (.goto (-55), 3)) (by decide +kernel) ?_
  exact h
-- 24 X2_standsTerm
theorem f24_0 {xs : Nat → Int} {L : Nat} {T : List (Nat × Int × Int)} {n : Nat} {d : Nat}  {s : Pl} {P : Int → Pl → Prop} (hK : KR T n) (h : Ev xs L T n d 25 [rf 54] s (qi fun r2 s1 => Fr xs L T n d 24 7 [some (rf 54), some (it r2), some (it 0)] [] s1 (qi P))) : Fr xs L T n d 24 0 [some (rf 54), none, none] [] s (qi P) := by
  have hn := hK.1
  refine Fr.aldn (c := 54) (by decide +kernel : zi 24 0 = some (.aload_n 0, 1)) rfl ⟨by omega, by omega⟩ ?_
  refine Fr.callI (y2 := 25) (na := 1) (as := [rf 54]) (rest := []) (by decide +kernel : zi 24 1 = some (.invokevirtual 82, 3)) rfl (by decide +kernel) (by decide +kernel) rfl rfl (zok_V rfl (by decide) (by decide +kernel) (by decide +kernel) (zrecv_c (c := 53) (by omega) (by decide +kernel)) rfl (Nat.le_of_ble_eq_true rfl)) h (fun r2 s1 h => ?_)
  refine Fr.istn (lv2 := [some (rf 54), some (it r2), none]) (by decide +kernel : zi 24 4 = some (.istore_n 1, 1)) (Nat.le_of_ble_eq_true rfl) rfl ?_
  refine Fr.iconst (by decide +kernel : zi 24 5 = some (.iconst 0, 1)) (by decide) ?_
  refine Fr.istn (lv2 := [some (rf 54), some (it r2), some (it 0)]) (by decide +kernel : zi 24 6 = some (.istore_n 2, 1)) (Nat.le_of_ble_eq_true rfl) rfl ?_
  exact h
theorem e24 {xs : Nat → Int} {L : Nat} {T : List (Nat × Int × Int)} {n : Nat} {d : Nat}  {s : Pl} {Q : Option AV → Pl → Prop} (hd : 1 ≤ d) (k : Fr xs L T n (d - 1) 24 0 [some (rf 54), none, none] [] s Q) : Ev xs L T n d 24 [rf 54] s Q := Ev.of (by decide) _ rfl hd k
theorem f24_7 {xs : Nat → Int} {L : Nat} {T : List (Nat × Int × Int)} {n : Nat} {d : Nat} {v1 : Int} {v2 : Int} {s : Pl} {P : Int → Pl → Prop} (hK : KR T n) (h : ((160 ≤ v2 → ((v1 = 0 ∨ v1 = 1) ∧ P v1 s)) ∧ (¬ (160 ≤ v2) → ((v1 = 0 → ((v1 = 0 ∨ v1 = 1) ∧ P v1 s)) ∧ (¬ (v1 = 0) → ((¬ s 53 6 = 42 → ((v1 = 0 ∨ v1 = 1) ∧ P v1 s)) ∧ (¬ (¬ s 53 6 = 42) → Ev xs L T n d 28 [rf 54] s (qv fun s1 => Ev xs L T n d 25 [rf 54] s1 (qi fun r3 s2 => ∃ tq4 : Nat, tq4 < 6 ∧ s2 53 8 = ((21 + 4 * tq4 + 1 : Nat) : Int) ∧ Ev xs L T n d 11 [rf (21 + 4 * tq4 + 1), it (-42)] s2 (qv fun s5 => Fr xs L T n d 24 7 [some (rf 54), some (it r3), some (it (zw (v2 + 1)))] [] s5 (qi P))))))))))) : Fr xs L T n d 24 7 [some (rf 54), some (it v1), some (it v2)] [] s (qi P) := by
  have hn := hK.1
  refine Fr.ildn (by decide +kernel : zi 24 7 = some (.iload_n 2, 1)) rfl ?_
  refine Fr.sipush (by decide +kernel : zi 24 8 = some (.sipush 160, 3)) (by decide) ?_
  refine Fr.if2 (q := 51) (by decide +kernel : zi 24 11 = some (.if_icmp .ge 40, 3)) (by decide +kernel) (fun g9 => ?_) (fun g9 => ?_)
  · have h := h.1 g9
    refine Fr.ildn (by decide +kernel : zi 24 51 = some (.iload_n 1, 1)) rfl ?_
    exact Fr.retZ (by decide +kernel : zi 24 52 = some (.ireturn, 1)) (by decide +kernel) h.1 h.2
  · have h := h.2 g9
    refine Fr.ildn (by decide +kernel : zi 24 14 = some (.iload_n 1, 1)) rfl ?_
    refine Fr.if0 (q := 51) (by decide +kernel : zi 24 15 = some (.ifCond .eq 36, 3)) (by decide +kernel) (fun g9 => ?_) (fun g9 => ?_)
    · have h := h.1 g9
      refine Fr.ildn (by decide +kernel : zi 24 51 = some (.iload_n 1, 1)) rfl ?_
      exact Fr.retZ (by decide +kernel : zi 24 52 = some (.ireturn, 1)) (by decide +kernel) h.1 h.2
    · have h := h.2 g9
      refine Fr.aldn (c := 54) (by decide +kernel : zi 24 18 = some (.aload_n 0, 1)) rfl ⟨by omega, by omega⟩ ?_
      refine Fr.gI (c := 53) (ci := 2) (k := 6) (t := 0) 6 (by decide +kernel : zi 24 19 = some (.getfield 53, 3)) (by decide +kernel) (by decide +kernel) (by decide +kernel) (by omega) rfl ?_
      refine Fr.bipush (by decide +kernel : zi 24 22 = some (.bipush 42, 2)) (by decide) ?_
      refine Fr.if2 (q := 51) (by decide +kernel : zi 24 24 = some (.if_icmp .ne 27, 3)) (by decide +kernel) (fun g9 => ?_) (fun g9 => ?_)
      · have h := h.1 g9
        refine Fr.ildn (by decide +kernel : zi 24 51 = some (.iload_n 1, 1)) rfl ?_
        exact Fr.retZ (by decide +kernel : zi 24 52 = some (.ireturn, 1)) (by decide +kernel) h.1 h.2
      · have h := h.2 g9
        refine Fr.aldn (c := 54) (by decide +kernel : zi 24 27 = some (.aload_n 0, 1)) rfl ⟨by omega, by omega⟩ ?_
        refine Fr.callV (y2 := 28) (na := 1) (as := [rf 54]) (rest := []) (by decide +kernel : zi 24 28 = some (.invokevirtual 43, 3)) rfl (by decide +kernel) (by decide +kernel) rfl rfl (zok_V rfl (by decide) (by decide +kernel) (by decide +kernel) (zrecv_c (c := 53) (by omega) (by decide +kernel)) rfl (Nat.le_of_ble_eq_true rfl)) h (fun s1 h => ?_)
        refine Fr.aldn (c := 54) (by decide +kernel : zi 24 31 = some (.aload_n 0, 1)) rfl ⟨by omega, by omega⟩ ?_
        refine Fr.callI (y2 := 25) (na := 1) (as := [rf 54]) (rest := []) (by decide +kernel : zi 24 32 = some (.invokevirtual 82, 3)) rfl (by decide +kernel) (by decide +kernel) rfl rfl (zok_V rfl (by decide) (by decide +kernel) (by decide +kernel) (zrecv_c (c := 53) (by omega) (by decide +kernel)) rfl (Nat.le_of_ble_eq_true rfl)) h (fun r3 s2 h => ?_)
        refine Fr.istn (lv2 := [some (rf 54), some (it r3), some (it v2)]) (by decide +kernel : zi 24 35 = some (.istore_n 1, 1)) (Nat.le_of_ble_eq_true rfl) rfl ?_
        refine Fr.aldn (c := 54) (by decide +kernel : zi 24 36 = some (.aload_n 0, 1)) rfl ⟨by omega, by omega⟩ ?_
        obtain ⟨tq4, htq4, g0, h⟩ := h
        refine Fr.gR (c := 53) (c2 := (21 + 4 * tq4 + 1)) (ci := 2) (k := 8) 8 (by decide +kernel : zi 24 37 = some (.getfield 21, 3)) (by decide +kernel) (by decide +kernel) (by decide +kernel) (by omega) rfl (fun _ => g0) ?_
        refine Fr.bipush (by decide +kernel : zi 24 40 = some (.bipush (-42), 2)) (by decide) ?_
        refine Fr.callV (y2 := 11) (na := 2) (as := [rf (21 + 4 * tq4 + 1), it (-42)]) (rest := []) (by decide +kernel : zi 24 42 = some (.invokevirtual 67, 3)) rfl (by decide +kernel) (by decide +kernel) rfl rfl (zok_V rfl (by decide) (by decide +kernel) (by decide +kernel) (zrecv_c (c := (21 + 4 * tq4)) (by omega) (by rw [(zlaw_sh _ htq4).1]; decide +kernel)) rfl (Nat.le_of_ble_eq_true rfl)) h (fun s5 h => ?_)
        refine Fr.iinc (lv2 := [some (rf 54), some (it r3), some (it (zw (v2 + 1)))]) (by decide +kernel : zi 24 45 = some (.iinc 2 1, 3)) (Nat.le_of_ble_eq_true rfl) rfl rfl ?_
        refine Fr.goto (q := 7) (by decide +kernel : zi 24 48 = some (.goto (-41), 3)) (by decide +kernel) ?_
        exact h
-- 25 X2_standsOne
theorem f25_0 {xs : Nat → Int} {L : Nat} {T : List (Nat × Int × Int)} {n : Nat} {d : Nat}  {s : Pl} {P : Int → Pl → Prop} (hK : KR T n) (h : ((¬ s 53 6 = 45 → ((¬ s 53 6 = 40 → ((s 53 6 < 6 → Fr xs L T n d 25 117 [some (rf 54)] [] s (qi P)) ∧ (¬ (s 53 6 < 6) → ((1000 ≤ s 53 6 → Fr xs L T n d 25 117 [some (rf 54)] [] s (qi P)) ∧ (¬ (1000 ≤ s 53 6) → P 0 s))))) ∧ (¬ (¬ s 53 6 = 40) → Ev xs L T n d 26 [rf 54] s (qi fun r2 s1 => ((r2 = 0 → P 0 s1) ∧ (¬ (r2 = 0) → Ev xs L T n d 20 [rf 54] s1 (qi fun r4 s3 => ((r4 = 0 → P 0 s3) ∧ (¬ (r4 = 0) → ((s3 53 6 = 41 → Ev xs L T n d 28 [rf 54] (zup s3 53 9 (zw ((s3 53 9) - 1))) (qv fun s5 => P 1 s5)) ∧ (¬ (s3 53 6 = 41) → P 0 s3))))))))))) ∧ (¬ (¬ s 53 6 = 45) → Ev xs L T n d 26 [rf 54] s (qi fun r7 s6 => ((r7 = 0 → P 0 s6) ∧ (¬ (r7 = 0) → Ev xs L T n d 25 [rf 54] s6 (qi fun r9 s8 => ((¬ r9 = 0 → ∃ tq10 : Nat, tq10 < 6 ∧ (zup s8 53 9 (zw ((s8 53 9) - 1))) 53 8 = ((21 + 4 * tq10 + 1 : Nat) : Int) ∧ Ev xs L T n d 11 [rf (21 + 4 * tq10 + 1), it (-13)] (zup s8 53 9 (zw ((s8 53 9) - 1))) (qv fun s11 => P 1 s11)) ∧ (¬ (¬ r9 = 0) → P 0 s8))))))))) : Fr xs L T n d 25 0 [some (rf 54)] [] s (qi P) := by
  have hn := hK.1
  refine Fr.aldn (c := 54) (by decide +kernel : zi 25 0 = some (.aload_n 0, 1)) rfl ⟨by omega, by omega⟩ ?_
  refine Fr.gI (c := 53) (ci := 2) (k := 6) (t := 0) 6 (by decide +kernel : zi 25 1 = some (.getfield 53, 3)) (by decide +kernel) (by decide +kernel) (by decide +kernel) (by omega) rfl ?_
  refine Fr.bipush (by decide +kernel : zi 25 4 = some (.bipush 45, 2)) (by decide) ?_
  refine Fr.if2 (q := 46) (by decide +kernel : zi 25 6 = some (.if_icmp .ne 40, 3)) (by decide +kernel) (fun g9 => ?_) (fun g9 => ?_)
  · have h := h.1 g9
    refine Fr.aldn (c := 54) (by decide +kernel : zi 25 46 = some (.aload_n 0, 1)) rfl ⟨by omega, by omega⟩ ?_
    refine Fr.gI (c := 53) (ci := 2) (k := 6) (t := 0) 6 (by decide +kernel : zi 25 47 = some (.getfield 53, 3)) (by decide +kernel) (by decide +kernel) (by decide +kernel) (by omega) rfl ?_
    refine Fr.bipush (by decide +kernel : zi 25 50 = some (.bipush 40, 2)) (by decide) ?_
    refine Fr.if2 (q := 96) (by decide +kernel : zi 25 52 = some (.if_icmp .ne 44, 3)) (by decide +kernel) (fun g9 => ?_) (fun g9 => ?_)
    · have h := h.1 g9
      refine Fr.aldn (c := 54) (by decide +kernel : zi 25 96 = some (.aload_n 0, 1)) rfl ⟨by omega, by omega⟩ ?_
      refine Fr.gI (c := 53) (ci := 2) (k := 6) (t := 0) 6 (by decide +kernel : zi 25 97 = some (.getfield 53, 3)) (by decide +kernel) (by decide +kernel) (by decide +kernel) (by omega) rfl ?_
      refine Fr.bipush (by decide +kernel : zi 25 100 = some (.bipush 6, 2)) (by decide) ?_
      refine Fr.if2 (q := 117) (by decide +kernel : zi 25 102 = some (.if_icmp .lt 15, 3)) (by decide +kernel) (fun g9 => ?_) (fun g9 => ?_)
      · have h := h.1 g9
        exact h
      · have h := h.2 g9
        refine Fr.aldn (c := 54) (by decide +kernel : zi 25 105 = some (.aload_n 0, 1)) rfl ⟨by omega, by omega⟩ ?_
        refine Fr.gI (c := 53) (ci := 2) (k := 6) (t := 0) 6 (by decide +kernel : zi 25 106 = some (.getfield 53, 3)) (by decide +kernel) (by decide +kernel) (by decide +kernel) (by omega) rfl ?_
        refine Fr.sipush (by decide +kernel : zi 25 109 = some (.sipush 1000, 3)) (by decide) ?_
        refine Fr.if2 (q := 117) (by decide +kernel : zi 25 112 = some (.if_icmp .ge 5, 3)) (by decide +kernel) (fun g9 => ?_) (fun g9 => ?_)
        · have h := h.1 g9
          exact h
        · have h := h.2 g9
          refine Fr.iconst (by decide +kernel : zi 25 115 = some (.iconst 0, 1)) (by decide) ?_
          exact Fr.retZ (by decide +kernel : zi 25 116 = some (.ireturn, 1)) (by decide +kernel) (by decide) h
    · have h := h.2 g9
      refine Fr.aldn (c := 54) (by decide +kernel : zi 25 55 = some (.aload_n 0, 1)) rfl ⟨by omega, by omega⟩ ?_
      refine Fr.callI (y2 := 26) (na := 1) (as := [rf 54]) (rest := []) (by decide +kernel : zi 25 56 = some (.invokevirtual 73, 3)) rfl (by decide +kernel) (by decide +kernel) rfl rfl (zok_V rfl (by decide) (by decide +kernel) (by decide +kernel) (zrecv_c (c := 53) (by omega) (by decide +kernel)) rfl (Nat.le_of_ble_eq_true rfl)) h (fun r2 s1 h => ?_)
      refine Fr.if0 (q := 78) (by decide +kernel : zi 25 59 = some (.ifCond .eq 19, 3)) (by decide +kernel) (fun g9 => ?_) (fun g9 => ?_)
      · have h := h.1 g9
        refine Fr.iconst (by decide +kernel : zi 25 78 = some (.iconst 0, 1)) (by decide) ?_
        exact Fr.retZ (by decide +kernel : zi 25 79 = some (.ireturn, 1)) (by decide +kernel) (by decide) h
      · have h := h.2 g9
        refine Fr.aldn (c := 54) (by decide +kernel : zi 25 62 = some (.aload_n 0, 1)) rfl ⟨by omega, by omega⟩ ?_
        refine Fr.callI (y2 := 20) (na := 1) (as := [rf 54]) (rest := []) (by decide +kernel : zi 25 63 = some (.invokevirtual 56, 3)) rfl (by decide +kernel) (by decide +kernel) rfl rfl (zok_V rfl (by decide) (by decide +kernel) (by decide +kernel) (zrecv_c (c := 53) (by omega) (by decide +kernel)) rfl (Nat.le_of_ble_eq_true rfl)) h (fun r4 s3 h => ?_)
        refine Fr.if0 (q := 78) (by decide +kernel : zi 25 66 = some (.ifCond .eq 12, 3)) (by decide +kernel) (fun g9 => ?_) (fun g9 => ?_)
        · have h := h.1 g9
          refine Fr.iconst (by decide +kernel : zi 25 78 = some (.iconst 0, 1)) (by decide) ?_
          exact Fr.retZ (by decide +kernel : zi 25 79 = some (.ireturn, 1)) (by decide +kernel) (by decide) h
        · have h := h.2 g9
          refine Fr.aldn (c := 54) (by decide +kernel : zi 25 69 = some (.aload_n 0, 1)) rfl ⟨by omega, by omega⟩ ?_
          refine Fr.gI (c := 53) (ci := 2) (k := 6) (t := 0) 6 (by decide +kernel : zi 25 70 = some (.getfield 53, 3)) (by decide +kernel) (by decide +kernel) (by decide +kernel) (by omega) rfl ?_
          refine Fr.bipush (by decide +kernel : zi 25 73 = some (.bipush 41, 2)) (by decide) ?_
          refine Fr.if2 (q := 80) (by decide +kernel : zi 25 75 = some (.if_icmp .eq 5, 3)) (by decide +kernel) (fun g9 => ?_) (fun g9 => ?_)
          · have h := h.1 g9
            refine Fr.aldn (c := 54) (by decide +kernel : zi 25 80 = some (.aload_n 0, 1)) rfl ⟨by omega, by omega⟩ ?_
            refine Fr.dup (by decide +kernel : zi 25 81 = some (.dup, 1)) rfl ?_
            refine Fr.gI (c := 53) (ci := 2) (k := 9) (t := 0) 9 (by decide +kernel : zi 25 82 = some (.getfield 34, 3)) (by decide +kernel) (by decide +kernel) (by decide +kernel) (by omega) rfl ?_
            refine Fr.iconst (by decide +kernel : zi 25 85 = some (.iconst 1, 1)) (by decide) ?_
            refine Fr.isub (by decide +kernel : zi 25 86 = some (.isub, 1)) ?_
            refine Fr.pI (c := 53) (ci := 2) (k := 9) 9 (by decide +kernel : zi 25 87 = some (.putfield 34, 3)) (by decide +kernel) (by decide +kernel) (by decide +kernel) (by omega) rfl ?_
            refine Fr.aldn (c := 54) (by decide +kernel : zi 25 90 = some (.aload_n 0, 1)) rfl ⟨by omega, by omega⟩ ?_
            refine Fr.callV (y2 := 28) (na := 1) (as := [rf 54]) (rest := []) (by decide +kernel : zi 25 91 = some (.invokevirtual 43, 3)) rfl (by decide +kernel) (by decide +kernel) rfl rfl (zok_V rfl (by decide) (by decide +kernel) (by decide +kernel) (zrecv_c (c := 53) (by omega) (by decide +kernel)) rfl (Nat.le_of_ble_eq_true rfl)) h (fun s5 h => ?_)
            refine Fr.iconst (by decide +kernel : zi 25 94 = some (.iconst 1, 1)) (by decide) ?_
            exact Fr.retZ (by decide +kernel : zi 25 95 = some (.ireturn, 1)) (by decide +kernel) (by decide) h
          · have h := h.2 g9
            refine Fr.iconst (by decide +kernel : zi 25 78 = some (.iconst 0, 1)) (by decide) ?_
            exact Fr.retZ (by decide +kernel : zi 25 79 = some (.ireturn, 1)) (by decide +kernel) (by decide) h
  · have h := h.2 g9
    refine Fr.aldn (c := 54) (by decide +kernel : zi 25 9 = some (.aload_n 0, 1)) rfl ⟨by omega, by omega⟩ ?_
    refine Fr.callI (y2 := 26) (na := 1) (as := [rf 54]) (rest := []) (by decide +kernel : zi 25 10 = some (.invokevirtual 73, 3)) rfl (by decide +kernel) (by decide +kernel) rfl rfl (zok_V rfl (by decide) (by decide +kernel) (by decide +kernel) (zrecv_c (c := 53) (by omega) (by decide +kernel)) rfl (Nat.le_of_ble_eq_true rfl)) h (fun r7 s6 h => ?_)
    refine Fr.if0 (q := 23) (by decide +kernel : zi 25 13 = some (.ifCond .eq 10, 3)) (by decide +kernel) (fun g9 => ?_) (fun g9 => ?_)
    · have h := h.1 g9
      refine Fr.iconst (by decide +kernel : zi 25 23 = some (.iconst 0, 1)) (by decide) ?_
      exact Fr.retZ (by decide +kernel : zi 25 24 = some (.ireturn, 1)) (by decide +kernel) (by decide) h
    · have h := h.2 g9
      refine Fr.aldn (c := 54) (by decide +kernel : zi 25 16 = some (.aload_n 0, 1)) rfl ⟨by omega, by omega⟩ ?_
      refine Fr.callI (y2 := 25) (na := 1) (as := [rf 54]) (rest := []) (by decide +kernel : zi 25 17 = some (.invokevirtual 82, 3)) rfl (by decide +kernel) (by decide +kernel) rfl rfl (zok_V rfl (by decide) (by decide +kernel) (by decide +kernel) (zrecv_c (c := 53) (by omega) (by decide +kernel)) rfl (Nat.le_of_ble_eq_true rfl)) h (fun r9 s8 h => ?_)
      refine Fr.if0 (q := 25) (by decide +kernel : zi 25 20 = some (.ifCond .ne 5, 3)) (by decide +kernel) (fun g9 => ?_) (fun g9 => ?_)
      · have h := h.1 g9
        refine Fr.aldn (c := 54) (by decide +kernel : zi 25 25 = some (.aload_n 0, 1)) rfl ⟨by omega, by omega⟩ ?_
        refine Fr.dup (by decide +kernel : zi 25 26 = some (.dup, 1)) rfl ?_
        refine Fr.gI (c := 53) (ci := 2) (k := 9) (t := 0) 9 (by decide +kernel : zi 25 27 = some (.getfield 34, 3)) (by decide +kernel) (by decide +kernel) (by decide +kernel) (by omega) rfl ?_
        refine Fr.iconst (by decide +kernel : zi 25 30 = some (.iconst 1, 1)) (by decide) ?_
        refine Fr.isub (by decide +kernel : zi 25 31 = some (.isub, 1)) ?_
        refine Fr.pI (c := 53) (ci := 2) (k := 9) 9 (by decide +kernel : zi 25 32 = some (.putfield 34, 3)) (by decide +kernel) (by decide +kernel) (by decide +kernel) (by omega) rfl ?_
        refine Fr.aldn (c := 54) (by decide +kernel : zi 25 35 = some (.aload_n 0, 1)) rfl ⟨by omega, by omega⟩ ?_
        obtain ⟨tq10, htq10, g0, h⟩ := h
        refine Fr.gR (c := 53) (c2 := (21 + 4 * tq10 + 1)) (ci := 2) (k := 8) 8 (by decide +kernel : zi 25 36 = some (.getfield 21, 3)) (by decide +kernel) (by decide +kernel) (by decide +kernel) (by omega) rfl (fun _ => g0) ?_
        refine Fr.bipush (by decide +kernel : zi 25 39 = some (.bipush (-13), 2)) (by decide) ?_
        refine Fr.callV (y2 := 11) (na := 2) (as := [rf (21 + 4 * tq10 + 1), it (-13)]) (rest := []) (by decide +kernel : zi 25 41 = some (.invokevirtual 67, 3)) rfl (by decide +kernel) (by decide +kernel) rfl rfl (zok_V rfl (by decide) (by decide +kernel) (by decide +kernel) (zrecv_c (c := (21 + 4 * tq10)) (by omega) (by rw [(zlaw_sh _ htq10).1]; decide +kernel)) rfl (Nat.le_of_ble_eq_true rfl)) h (fun s11 h => ?_)
        refine Fr.iconst (by decide +kernel : zi 25 44 = some (.iconst 1, 1)) (by decide) ?_
        exact Fr.retZ (by decide +kernel : zi 25 45 = some (.ireturn, 1)) (by decide +kernel) (by decide) h
      · have h := h.2 g9
        refine Fr.iconst (by decide +kernel : zi 25 23 = some (.iconst 0, 1)) (by decide) ?_
        exact Fr.retZ (by decide +kernel : zi 25 24 = some (.ireturn, 1)) (by decide +kernel) (by decide) h
theorem e25 {xs : Nat → Int} {L : Nat} {T : List (Nat × Int × Int)} {n : Nat} {d : Nat}  {s : Pl} {Q : Option AV → Pl → Prop} (hd : 1 ≤ d) (k : Fr xs L T n (d - 1) 25 0 [some (rf 54)] [] s Q) : Ev xs L T n d 25 [rf 54] s Q := Ev.of (by decide) _ rfl hd k
theorem f25_117 {xs : Nat → Int} {L : Nat} {T : List (Nat × Int × Int)} {n : Nat} {d : Nat}  {s : Pl} {P : Int → Pl → Prop} (hK : KR T n) (h : ∃ tq1 : Nat, tq1 < 6 ∧ s 53 8 = ((21 + 4 * tq1 + 1 : Nat) : Int) ∧ ((s 53 6 < 1000 → Fr xs L T n d 25 148 [some (rf 54)] [it (zw ((-1) - (s 53 6))), rf (21 + 4 * tq1 + 1)] s (qi P)) ∧ (¬ (s 53 6 < 1000) → Fr xs L T n d 25 148 [some (rf 54)] [it (zw ((s 53 6) - 1000)), rf (21 + 4 * tq1 + 1)] s (qi P)))) : Fr xs L T n d 25 117 [some (rf 54)] [] s (qi P) := by
  have hn := hK.1
  refine Fr.aldn (c := 54) (by decide +kernel : zi 25 117 = some (.aload_n 0, 1)) rfl ⟨by omega, by omega⟩ ?_
  obtain ⟨tq1, htq1, g0, h⟩ := h
  refine Fr.gR (c := 53) (c2 := (21 + 4 * tq1 + 1)) (ci := 2) (k := 8) 8 (by decide +kernel : zi 25 118 = some (.getfield 21, 3)) (by decide +kernel) (by decide +kernel) (by decide +kernel) (by omega) rfl (fun _ => g0) ?_
  refine Fr.aldn (c := 54) (by decide +kernel : zi 25 121 = some (.aload_n 0, 1)) rfl ⟨by omega, by omega⟩ ?_
  refine Fr.gI (c := 53) (ci := 2) (k := 6) (t := 0) 6 (by decide +kernel : zi 25 122 = some (.getfield 53, 3)) (by decide +kernel) (by decide +kernel) (by decide +kernel) (by omega) rfl ?_
  refine Fr.sipush (by decide +kernel : zi 25 125 = some (.sipush 1000, 3)) (by decide) ?_
  refine Fr.if2 (q := 142) (by decide +kernel : zi 25 128 = some (.if_icmp .lt 14, 3)) (by decide +kernel) (fun g9 => ?_) (fun g9 => ?_)
  · have h := h.1 g9
    refine Fr.iconst (by decide +kernel : zi 25 142 = some (.iconst (-1), 1)) (by decide) ?_
    refine Fr.aldn (c := 54) (by decide +kernel : zi 25 143 = some (.aload_n 0, 1)) rfl ⟨by omega, by omega⟩ ?_
    refine Fr.gI (c := 53) (ci := 2) (k := 6) (t := 0) 6 (by decide +kernel : zi 25 144 = some (.getfield 53, 3)) (by decide +kernel) (by decide +kernel) (by decide +kernel) (by omega) rfl ?_
    refine Fr.isub (by decide +kernel : zi 25 147 = some (.isub, 1)) ?_
    exact h
  · have h := h.2 g9
    refine Fr.aldn (c := 54) (by decide +kernel : zi 25 131 = some (.aload_n 0, 1)) rfl ⟨by omega, by omega⟩ ?_
    refine Fr.gI (c := 53) (ci := 2) (k := 6) (t := 0) 6 (by decide +kernel : zi 25 132 = some (.getfield 53, 3)) (by decide +kernel) (by decide +kernel) (by decide +kernel) (by omega) rfl ?_
    refine Fr.sipush (by decide +kernel : zi 25 135 = some (.sipush 1000, 3)) (by decide) ?_
    refine Fr.isub (by decide +kernel : zi 25 138 = some (.isub, 1)) ?_
    refine Fr.goto (q := 148) (by decide +kernel : zi 25 139 = some (.goto 9, 3)) (by decide +kernel) ?_
    exact h
theorem f25_148 {xs : Nat → Int} {L : Nat} {T : List (Nat × Int × Int)} {n : Nat} {d : Nat} {vs0 : Int} {ts1 : Nat} {s : Pl} {P : Int → Pl → Prop} (hK : KR T n) (hts1 : ts1 < 6) (h : Ev xs L T n d 11 [rf (21 + 4 * ts1 + 1), it vs0] s (qv fun s1 => Ev xs L T n d 28 [rf 54] s1 (qv fun s2 => P 1 s2))) : Fr xs L T n d 25 148 [some (rf 54)] [it vs0, rf (21 + 4 * ts1 + 1)] s (qi P) := by
  have hn := hK.1
  refine Fr.callV (y2 := 11) (na := 2) (as := [rf (21 + 4 * ts1 + 1), it vs0]) (rest := []) (by decide +kernel : zi 25 148 = some (.invokevirtual 67, 3)) rfl (by decide +kernel) (by decide +kernel) rfl rfl (zok_V rfl (by decide) (by decide +kernel) (by decide +kernel) (zrecv_c (c := (21 + 4 * ts1)) (by omega) (by rw [(zlaw_sh _ hts1).1]; decide +kernel)) rfl (Nat.le_of_ble_eq_true rfl)) h (fun s1 h => ?_)
  refine Fr.aldn (c := 54) (by decide +kernel : zi 25 151 = some (.aload_n 0, 1)) rfl ⟨by omega, by omega⟩ ?_
  refine Fr.callV (y2 := 28) (na := 1) (as := [rf 54]) (rest := []) (by decide +kernel : zi 25 152 = some (.invokevirtual 43, 3)) rfl (by decide +kernel) (by decide +kernel) rfl rfl (zok_V rfl (by decide) (by decide +kernel) (by decide +kernel) (zrecv_c (c := 53) (by omega) (by decide +kernel)) rfl (Nat.le_of_ble_eq_true rfl)) h (fun s2 h => ?_)
  refine Fr.iconst (by decide +kernel : zi 25 155 = some (.iconst 1, 1)) (by decide) ?_
  exact Fr.retZ (by decide +kernel : zi 25 156 = some (.ireturn, 1)) (by decide +kernel) (by decide) h
-- 26 X2_op-ens
theorem f26_0 {xs : Nat → Int} {L : Nat} {T : List (Nat × Int × Int)} {n : Nat} {d : Nat}  {s : Pl} {P : Int → Pl → Prop} (hK : KR T n) (h : ((s 53 9 < 5 → Ev xs L T n d 28 [rf 54] (zup s 53 9 (zw ((s 53 9) + 1))) (qv fun s1 => P 1 s1)) ∧ (¬ (s 53 9 < 5) → P 0 s))) : Fr xs L T n d 26 0 [some (rf 54)] [] s (qi P) := by
  have hn := hK.1
  refine Fr.aldn (c := 54) (by decide +kernel : zi 26 0 = some (.aload_n 0, 1)) rfl ⟨by omega, by omega⟩ ?_
  refine Fr.gI (c := 53) (ci := 2) (k := 9) (t := 0) 9 (by decide +kernel : zi 26 1 = some (.getfield 34, 3)) (by decide +kernel) (by decide +kernel) (by decide +kernel) (by omega) rfl ?_
  refine Fr.iconst (by decide +kernel : zi 26 4 = some (.iconst 5, 1)) (by decide) ?_
  refine Fr.if2 (q := 10) (by decide +kernel : zi 26 5 = some (.if_icmp .lt 5, 3)) (by decide +kernel) (fun g9 => ?_) (fun g9 => ?_)
  · have h := h.1 g9
    refine Fr.aldn (c := 54) (by decide +kernel : zi 26 10 = some (.aload_n 0, 1)) rfl ⟨by omega, by omega⟩ ?_
    refine Fr.dup (by decide +kernel : zi 26 11 = some (.dup, 1)) rfl ?_
    refine Fr.gI (c := 53) (ci := 2) (k := 9) (t := 0) 9 (by decide +kernel : zi 26 12 = some (.getfield 34, 3)) (by decide +kernel) (by decide +kernel) (by decide +kernel) (by omega) rfl ?_
    refine Fr.iconst (by decide +kernel : zi 26 15 = some (.iconst 1, 1)) (by decide) ?_
    refine Fr.iadd (by decide +kernel : zi 26 16 = some (.iadd, 1)) ?_
    refine Fr.pI (c := 53) (ci := 2) (k := 9) 9 (by decide +kernel : zi 26 17 = some (.putfield 34, 3)) (by decide +kernel) (by decide +kernel) (by decide +kernel) (by omega) rfl ?_
    refine Fr.aldn (c := 54) (by decide +kernel : zi 26 20 = some (.aload_n 0, 1)) rfl ⟨by omega, by omega⟩ ?_
    refine Fr.callV (y2 := 28) (na := 1) (as := [rf 54]) (rest := []) (by decide +kernel : zi 26 21 = some (.invokevirtual 43, 3)) rfl (by decide +kernel) (by decide +kernel) rfl rfl (zok_V rfl (by decide) (by decide +kernel) (by decide +kernel) (zrecv_c (c := 53) (by omega) (by decide +kernel)) rfl (Nat.le_of_ble_eq_true rfl)) h (fun s1 h => ?_)
    refine Fr.iconst (by decide +kernel : zi 26 24 = some (.iconst 1, 1)) (by decide) ?_
    exact Fr.retZ (by decide +kernel : zi 26 25 = some (.ireturn, 1)) (by decide +kernel) (by decide) h
  · have h := h.2 g9
    refine Fr.iconst (by decide +kernel : zi 26 8 = some (.iconst 0, 1)) (by decide) ?_
    exact Fr.retZ (by decide +kernel : zi 26 9 = some (.ireturn, 1)) (by decide +kernel) (by decide) h
theorem e26 {xs : Nat → Int} {L : Nat} {T : List (Nat × Int × Int)} {n : Nat} {d : Nat}  {s : Pl} {Q : Option AV → Pl → Prop} (hd : 1 ≤ d) (k : Fr xs L T n (d - 1) 26 0 [some (rf 54)] [] s Q) : Ev xs L T n d 26 [rf 54] s Q := Ev.of (by decide) _ rfl hd k
-- 27 X2_byteAt
theorem f27_0 {xs : Nat → Int} {L : Nat} {T : List (Nat × Int × Int)} {n : Nat} {d : Nat} {v1 : Int} {s : Pl} {P : Int → Pl → Prop} (hK : KR T n) (h : ((v1 < 0 → P (-1) s) ∧ (¬ (v1 < 0) → ((s 53 1 ≤ v1 → P (-1) s) ∧ (¬ (s 53 1 ≤ v1) → ((160 ≤ v1 → P (-1) s) ∧ (¬ (160 ≤ v1) → (0 ≤ v1 ∧ v1 < 160) ∧ P (s 54 v1) s))))))) : Fr xs L T n d 27 0 [some (rf 54), some (it v1)] [] s (qi P) := by
  have hn := hK.1
  refine Fr.ildn (by decide +kernel : zi 27 0 = some (.iload_n 1, 1)) rfl ?_
  refine Fr.if0 (q := 30) (by decide +kernel : zi 27 1 = some (.ifCond .lt 29, 3)) (by decide +kernel) (fun g9 => ?_) (fun g9 => ?_)
  · have h := h.1 g9
    refine Fr.iconst (by decide +kernel : zi 27 30 = some (.iconst (-1), 1)) (by decide) ?_
    exact Fr.retI (by decide +kernel : zi 27 31 = some (.ireturn, 1)) (by decide +kernel) h
  · have h := h.2 g9
    refine Fr.ildn (by decide +kernel : zi 27 4 = some (.iload_n 1, 1)) rfl ?_
    refine Fr.aldn (c := 54) (by decide +kernel : zi 27 5 = some (.aload_n 0, 1)) rfl ⟨by omega, by omega⟩ ?_
    refine Fr.gI (c := 53) (ci := 2) (k := 1) (t := 0) 1 (by decide +kernel : zi 27 6 = some (.getfield 25, 3)) (by decide +kernel) (by decide +kernel) (by decide +kernel) (by omega) rfl ?_
    refine Fr.if2 (q := 30) (by decide +kernel : zi 27 9 = some (.if_icmp .ge 21, 3)) (by decide +kernel) (fun g9 => ?_) (fun g9 => ?_)
    · have h := h.1 g9
      refine Fr.iconst (by decide +kernel : zi 27 30 = some (.iconst (-1), 1)) (by decide) ?_
      exact Fr.retI (by decide +kernel : zi 27 31 = some (.ireturn, 1)) (by decide +kernel) h
    · have h := h.2 g9
      refine Fr.ildn (by decide +kernel : zi 27 12 = some (.iload_n 1, 1)) rfl ?_
      refine Fr.aldn (c := 54) (by decide +kernel : zi 27 13 = some (.aload_n 0, 1)) rfl ⟨by omega, by omega⟩ ?_
      refine Fr.gR (c := 53) (c2 := 55) (ci := 2) (k := 0) 0 (by decide +kernel : zi 27 14 = some (.getfield 9, 3)) (by decide +kernel) (by decide +kernel) (by decide +kernel) (by omega) rfl (fun q => q (53, 0, 55) (hK.2.1 _ (by decide +kernel))) ?_
      refine Fr.alen (c := 54) (N := 160) (K := 20) (by decide +kernel : zi 27 17 = some (.arraylength, 1)) (by decide +kernel) (by decide) (by omega) ?_
      refine Fr.if2 (q := 30) (by decide +kernel : zi 27 18 = some (.if_icmp .ge 12, 3)) (by decide +kernel) (fun g9 => ?_) (fun g9 => ?_)
      · have h := h.1 g9
        refine Fr.iconst (by decide +kernel : zi 27 30 = some (.iconst (-1), 1)) (by decide) ?_
        exact Fr.retI (by decide +kernel : zi 27 31 = some (.ireturn, 1)) (by decide +kernel) h
      · have h := h.2 g9
        refine Fr.aldn (c := 54) (by decide +kernel : zi 27 21 = some (.aload_n 0, 1)) rfl ⟨by omega, by omega⟩ ?_
        refine Fr.gR (c := 53) (c2 := 55) (ci := 2) (k := 0) 0 (by decide +kernel : zi 27 22 = some (.getfield 9, 3)) (by decide +kernel) (by decide +kernel) (by decide +kernel) (by omega) rfl (fun q => q (53, 0, 55) (hK.2.1 _ (by decide +kernel))) ?_
        refine Fr.ildn (by decide +kernel : zi 27 25 = some (.iload_n 1, 1)) rfl ?_
        obtain ⟨⟨g0, g1⟩, h⟩ := h
        refine Fr.iald (c := 54) (N := 160) (by decide +kernel : zi 27 26 = some (.iaload, 1)) (by decide +kernel) (by omega) g0 g1 ?_
        refine Fr.goto (q := 31) (by decide +kernel : zi 27 27 = some (.goto 4, 3)) (by decide +kernel) ?_
        exact Fr.retI (by decide +kernel : zi 27 31 = some (.ireturn, 1)) (by decide +kernel) h
theorem e27 {xs : Nat → Int} {L : Nat} {T : List (Nat × Int × Int)} {n : Nat} {d : Nat} {v1 : Int} {s : Pl} {Q : Option AV → Pl → Prop} (hd : 1 ≤ d) (k : Fr xs L T n (d - 1) 27 0 [some (rf 54), some (it v1)] [] s Q) : Ev xs L T n d 27 [rf 54, it v1] s Q := Ev.of (by decide) _ rfl hd k
-- 28 X2_step
theorem f28_0 {xs : Nat → Int} {L : Nat} {T : List (Nat × Int × Int)} {n : Nat} {d : Nat}  {s : Pl} {P : Pl → Prop} (hK : KR T n) (h : ((s 53 5 < 0 → P s) ∧ (¬ (s 53 5 < 0) → ((s 53 4 ≤ s 53 5 → P s) ∧ (¬ (s 53 4 ≤ s 53 5) → ((161 ≤ s 53 5 → P s) ∧ (¬ (161 ≤ s 53 5) → (0 ≤ s 53 5 ∧ s 53 5 < 161) ∧ (0 ≤ (zup s 53 6 (s 55 (s 53 5))) 53 5 ∧ (zup s 53 6 (s 55 (s 53 5))) 53 5 < 161) ∧ P (zup (zup (zup s 53 6 (s 55 (s 53 5))) 53 7 ((zup s 53 6 (s 55 (s 53 5))) 56 ((zup s 53 6 (s 55 (s 53 5))) 53 5))) 53 5 (zw (((zup (zup s 53 6 (s 55 (s 53 5))) 53 7 ((zup s 53 6 (s 55 (s 53 5))) 56 ((zup s 53 6 (s 55 (s 53 5))) 53 5))) 53 5) + 1)))))))))) : Fr xs L T n d 28 0 [some (rf 54)] [] s (qv P) := by
  have hn := hK.1
  refine Fr.aldn (c := 54) (by decide +kernel : zi 28 0 = some (.aload_n 0, 1)) rfl ⟨by omega, by omega⟩ ?_
  refine Fr.gI (c := 53) (ci := 2) (k := 5) (t := 0) 5 (by decide +kernel : zi 28 1 = some (.getfield 40, 3)) (by decide +kernel) (by decide +kernel) (by decide +kernel) (by omega) rfl ?_
  refine Fr.if0 (q := 66) (by decide +kernel : zi 28 4 = some (.ifCond .lt 62, 3)) (by decide +kernel) (fun g9 => ?_) (fun g9 => ?_)
  · have h := h.1 g9
    exact Fr.retV (by decide +kernel : zi 28 66 = some (.return_, 1)) (by decide +kernel) h
  · have h := h.2 g9
    refine Fr.aldn (c := 54) (by decide +kernel : zi 28 7 = some (.aload_n 0, 1)) rfl ⟨by omega, by omega⟩ ?_
    refine Fr.gI (c := 53) (ci := 2) (k := 5) (t := 0) 5 (by decide +kernel : zi 28 8 = some (.getfield 40, 3)) (by decide +kernel) (by decide +kernel) (by decide +kernel) (by omega) rfl ?_
    refine Fr.aldn (c := 54) (by decide +kernel : zi 28 11 = some (.aload_n 0, 1)) rfl ⟨by omega, by omega⟩ ?_
    refine Fr.gI (c := 53) (ci := 2) (k := 4) (t := 0) 4 (by decide +kernel : zi 28 12 = some (.getfield 85, 3)) (by decide +kernel) (by decide +kernel) (by decide +kernel) (by omega) rfl ?_
    refine Fr.if2 (q := 66) (by decide +kernel : zi 28 15 = some (.if_icmp .ge 51, 3)) (by decide +kernel) (fun g9 => ?_) (fun g9 => ?_)
    · have h := h.1 g9
      exact Fr.retV (by decide +kernel : zi 28 66 = some (.return_, 1)) (by decide +kernel) h
    · have h := h.2 g9
      refine Fr.aldn (c := 54) (by decide +kernel : zi 28 18 = some (.aload_n 0, 1)) rfl ⟨by omega, by omega⟩ ?_
      refine Fr.gI (c := 53) (ci := 2) (k := 5) (t := 0) 5 (by decide +kernel : zi 28 19 = some (.getfield 40, 3)) (by decide +kernel) (by decide +kernel) (by decide +kernel) (by omega) rfl ?_
      refine Fr.aldn (c := 54) (by decide +kernel : zi 28 22 = some (.aload_n 0, 1)) rfl ⟨by omega, by omega⟩ ?_
      refine Fr.gR (c := 53) (c2 := 56) (ci := 2) (k := 2) 2 (by decide +kernel : zi 28 23 = some (.getfield 15, 3)) (by decide +kernel) (by decide +kernel) (by decide +kernel) (by omega) rfl (fun q => q (53, 2, 56) (hK.2.1 _ (by decide +kernel))) ?_
      refine Fr.alen (c := 55) (N := 161) (K := 20) (by decide +kernel : zi 28 26 = some (.arraylength, 1)) (by decide +kernel) (by decide) (by omega) ?_
      refine Fr.if2 (q := 66) (by decide +kernel : zi 28 27 = some (.if_icmp .ge 39, 3)) (by decide +kernel) (fun g9 => ?_) (fun g9 => ?_)
      · have h := h.1 g9
        exact Fr.retV (by decide +kernel : zi 28 66 = some (.return_, 1)) (by decide +kernel) h
      · have h := h.2 g9
        refine Fr.aldn (c := 54) (by decide +kernel : zi 28 30 = some (.aload_n 0, 1)) rfl ⟨by omega, by omega⟩ ?_
        refine Fr.aldn (c := 54) (by decide +kernel : zi 28 31 = some (.aload_n 0, 1)) rfl ⟨by omega, by omega⟩ ?_
        refine Fr.gR (c := 53) (c2 := 56) (ci := 2) (k := 2) 2 (by decide +kernel : zi 28 32 = some (.getfield 15, 3)) (by decide +kernel) (by decide +kernel) (by decide +kernel) (by omega) rfl (fun q => q (53, 2, 56) (hK.2.1 _ (by decide +kernel))) ?_
        refine Fr.aldn (c := 54) (by decide +kernel : zi 28 35 = some (.aload_n 0, 1)) rfl ⟨by omega, by omega⟩ ?_
        refine Fr.gI (c := 53) (ci := 2) (k := 5) (t := 0) 5 (by decide +kernel : zi 28 36 = some (.getfield 40, 3)) (by decide +kernel) (by decide +kernel) (by decide +kernel) (by omega) rfl ?_
        obtain ⟨⟨g0, g1⟩, h⟩ := h
        refine Fr.iald (c := 55) (N := 161) (by decide +kernel : zi 28 39 = some (.iaload, 1)) (by decide +kernel) (by omega) g0 g1 ?_
        refine Fr.pI (c := 53) (ci := 2) (k := 6) 6 (by decide +kernel : zi 28 40 = some (.putfield 53, 3)) (by decide +kernel) (by decide +kernel) (by decide +kernel) (by omega) rfl ?_
        refine Fr.aldn (c := 54) (by decide +kernel : zi 28 43 = some (.aload_n 0, 1)) rfl ⟨by omega, by omega⟩ ?_
        refine Fr.aldn (c := 54) (by decide +kernel : zi 28 44 = some (.aload_n 0, 1)) rfl ⟨by omega, by omega⟩ ?_
        refine Fr.gR (c := 53) (c2 := 57) (ci := 2) (k := 3) 3 (by decide +kernel : zi 28 45 = some (.getfield 18, 3)) (by decide +kernel) (by decide +kernel) (by decide +kernel) (by omega) rfl (fun q => q (53, 3, 57) (hK.2.1 _ (by decide +kernel))) ?_
        refine Fr.aldn (c := 54) (by decide +kernel : zi 28 48 = some (.aload_n 0, 1)) rfl ⟨by omega, by omega⟩ ?_
        refine Fr.gI (c := 53) (ci := 2) (k := 5) (t := 0) 5 (by decide +kernel : zi 28 49 = some (.getfield 40, 3)) (by decide +kernel) (by decide +kernel) (by decide +kernel) (by omega) rfl ?_
        obtain ⟨⟨g0, g1⟩, h⟩ := h
        refine Fr.iald (c := 56) (N := 161) (by decide +kernel : zi 28 52 = some (.iaload, 1)) (by decide +kernel) (by omega) g0 g1 ?_
        refine Fr.pI (c := 53) (ci := 2) (k := 7) 7 (by decide +kernel : zi 28 53 = some (.putfield 50, 3)) (by decide +kernel) (by decide +kernel) (by decide +kernel) (by omega) rfl ?_
        refine Fr.aldn (c := 54) (by decide +kernel : zi 28 56 = some (.aload_n 0, 1)) rfl ⟨by omega, by omega⟩ ?_
        refine Fr.dup (by decide +kernel : zi 28 57 = some (.dup, 1)) rfl ?_
        refine Fr.gI (c := 53) (ci := 2) (k := 5) (t := 0) 5 (by decide +kernel : zi 28 58 = some (.getfield 40, 3)) (by decide +kernel) (by decide +kernel) (by decide +kernel) (by omega) rfl ?_
        refine Fr.iconst (by decide +kernel : zi 28 61 = some (.iconst 1, 1)) (by decide) ?_
        refine Fr.iadd (by decide +kernel : zi 28 62 = some (.iadd, 1)) ?_
        refine Fr.pI (c := 53) (ci := 2) (k := 5) 5 (by decide +kernel : zi 28 63 = some (.putfield 40, 3)) (by decide +kernel) (by decide +kernel) (by decide +kernel) (by omega) rfl ?_
        exact Fr.retV (by decide +kernel : zi 28 66 = some (.return_, 1)) (by decide +kernel) h
theorem e28 {xs : Nat → Int} {L : Nat} {T : List (Nat × Int × Int)} {n : Nat} {d : Nat}  {s : Pl} {Q : Option AV → Pl → Prop} (hd : 1 ≤ d) (k : Fr xs L T n (d - 1) 28 0 [some (rf 54)] [] s Q) : Ev xs L T n d 28 [rf 54] s Q := Ev.of (by decide) _ rfl hd k
-- 29 X2_split
theorem f29_0 {xs : Nat → Int} {L : Nat} {T : List (Nat × Int × Int)} {n : Nat} {d : Nat}  {s : Pl} {P : Pl → Prop} (hK : KR T n) (h : Fr xs L T n d 29 7 [some (rf 54), some (it 0), none] [] (zup s 53 4 0) (qv P)) : Fr xs L T n d 29 0 [some (rf 54), none, none] [] s (qv P) := by
  have hn := hK.1
  refine Fr.aldn (c := 54) (by decide +kernel : zi 29 0 = some (.aload_n 0, 1)) rfl ⟨by omega, by omega⟩ ?_
  refine Fr.iconst (by decide +kernel : zi 29 1 = some (.iconst 0, 1)) (by decide) ?_
  refine Fr.pI (c := 53) (ci := 2) (k := 4) 4 (by decide +kernel : zi 29 2 = some (.putfield 85, 3)) (by decide +kernel) (by decide +kernel) (by decide +kernel) (by omega) rfl ?_
  refine Fr.iconst (by decide +kernel : zi 29 5 = some (.iconst 0, 1)) (by decide) ?_
  refine Fr.istn (lv2 := [some (rf 54), some (it 0), none]) (by decide +kernel : zi 29 6 = some (.istore_n 1, 1)) (Nat.le_of_ble_eq_true rfl) rfl ?_
  exact h
theorem e29 {xs : Nat → Int} {L : Nat} {T : List (Nat × Int × Int)} {n : Nat} {d : Nat}  {s : Pl} {Q : Option AV → Pl → Prop} (hd : 1 ≤ d) (k : Fr xs L T n (d - 1) 29 0 [some (rf 54), none, none] [] s Q) : Ev xs L T n d 29 [rf 54] s Q := Ev.of (by decide) _ rfl hd k
theorem f29_7 {xs : Nat → Int} {L : Nat} {T : List (Nat × Int × Int)} {n : Nat} {d : Nat} {v1 : Int} {w2 : Option AV} {s : Pl} {P : Pl → Prop} (hK : KR T n) (h : ((s 53 1 ≤ v1 → Ev xs L T n d 240 [rf 54, it 300, it (s 53 1)] s (qv fun s1 => P s1)) ∧ (¬ (s 53 1 ≤ v1) → Ev xs L T n d 243 [rf 54, it v1] s (qi fun r3 s2 => Ev xs L T n d 27 [rf 54, it v1] s2 (qi fun r5 s4 => ((r5 = 32 → Fr xs L T n d 29 54 [some (rf 54), some (it v1), some (it r3)] [] s4 (qv P)) ∧ (¬ (r5 = 32) → Ev xs L T n d 27 [rf 54, it v1] s4 (qi fun r7 s6 => ((r7 = 10 → Fr xs L T n d 29 54 [some (rf 54), some (it v1), some (it r3)] [] s6 (qv P)) ∧ (¬ (r7 = 10) → Ev xs L T n d 244 [rf 54, it v1, it (zw (r3 - v1))] s6 (qi fun r9 s8 => Ev xs L T n d 240 [rf 54, it r9, it v1] s8 (qv fun s10 => Fr xs L T n d 29 54 [some (rf 54), some (it v1), some (it r3)] [] s10 (qv P))))))))))))) : Fr xs L T n d 29 7 [some (rf 54), some (it v1), w2] [] s (qv P) := by
  have hn := hK.1
  refine Fr.ildn (by decide +kernel : zi 29 7 = some (.iload_n 1, 1)) rfl ?_
  refine Fr.aldn (c := 54) (by decide +kernel : zi 29 8 = some (.aload_n 0, 1)) rfl ⟨by omega, by omega⟩ ?_
  refine Fr.gI (c := 53) (ci := 2) (k := 1) (t := 0) 1 (by decide +kernel : zi 29 9 = some (.getfield 25, 3)) (by decide +kernel) (by decide +kernel) (by decide +kernel) (by omega) rfl ?_
  refine Fr.if2 (q := 65) (by decide +kernel : zi 29 12 = some (.if_icmp .ge 53, 3)) (by decide +kernel) (fun g9 => ?_) (fun g9 => ?_)
  · have h := h.1 g9
    refine Fr.aldn (c := 54) (by decide +kernel : zi 29 65 = some (.aload_n 0, 1)) rfl ⟨by omega, by omega⟩ ?_
    refine Fr.sipush (by decide +kernel : zi 29 66 = some (.sipush 300, 3)) (by decide) ?_
    refine Fr.aldn (c := 54) (by decide +kernel : zi 29 69 = some (.aload_n 0, 1)) rfl ⟨by omega, by omega⟩ ?_
    refine Fr.gI (c := 53) (ci := 2) (k := 1) (t := 0) 1 (by decide +kernel : zi 29 70 = some (.getfield 25, 3)) (by decide +kernel) (by decide +kernel) (by decide +kernel) (by omega) rfl ?_
    refine Fr.callV (y2 := 240) (na := 3) (as := [rf 54, it 300, it (s 53 1)]) (rest := []) (by decide +kernel : zi 29 73 = some (.invokevirtual 99, 3)) rfl (by decide +kernel) (by decide +kernel) rfl rfl (zok_V rfl (by decide) (by decide +kernel) (by decide +kernel) (zrecv_c (c := 53) (by omega) (by decide +kernel)) rfl (Nat.le_of_ble_eq_true rfl)) h (fun s1 h => ?_)
    exact Fr.retV (by decide +kernel : zi 29 76 = some (.return_, 1)) (by decide +kernel) h
  · have h := h.2 g9
    refine Fr.aldn (c := 54) (by decide +kernel : zi 29 15 = some (.aload_n 0, 1)) rfl ⟨by omega, by omega⟩ ?_
    refine Fr.ildn (by decide +kernel : zi 29 16 = some (.iload_n 1, 1)) rfl ?_
    refine Fr.callI (y2 := 243) (na := 2) (as := [rf 54, it v1]) (rest := []) (by decide +kernel : zi 29 17 = some (.invokevirtual 88, 3)) rfl (by decide +kernel) (by decide +kernel) rfl rfl (zok_V rfl (by decide) (by decide +kernel) (by decide +kernel) (zrecv_c (c := 53) (by omega) (by decide +kernel)) rfl (Nat.le_of_ble_eq_true rfl)) h (fun r3 s2 h => ?_)
    refine Fr.istn (lv2 := [some (rf 54), some (it v1), some (it r3)]) (by decide +kernel : zi 29 20 = some (.istore_n 2, 1)) (Nat.le_of_ble_eq_true rfl) rfl ?_
    refine Fr.aldn (c := 54) (by decide +kernel : zi 29 21 = some (.aload_n 0, 1)) rfl ⟨by omega, by omega⟩ ?_
    refine Fr.ildn (by decide +kernel : zi 29 22 = some (.iload_n 1, 1)) rfl ?_
    refine Fr.callI (y2 := 27) (na := 2) (as := [rf 54, it v1]) (rest := []) (by decide +kernel : zi 29 23 = some (.invokevirtual 92, 3)) rfl (by decide +kernel) (by decide +kernel) rfl rfl (zok_V rfl (by decide) (by decide +kernel) (by decide +kernel) (zrecv_c (c := 53) (by omega) (by decide +kernel)) rfl (Nat.le_of_ble_eq_true rfl)) h (fun r5 s4 h => ?_)
    refine Fr.bipush (by decide +kernel : zi 29 26 = some (.bipush 32, 2)) (by decide) ?_
    refine Fr.if2 (q := 54) (by decide +kernel : zi 29 28 = some (.if_icmp .eq 26, 3)) (by decide +kernel) (fun g9 => ?_) (fun g9 => ?_)
    · have h := h.1 g9
      exact h
    · have h := h.2 g9
      refine Fr.aldn (c := 54) (by decide +kernel : zi 29 31 = some (.aload_n 0, 1)) rfl ⟨by omega, by omega⟩ ?_
      refine Fr.ildn (by decide +kernel : zi 29 32 = some (.iload_n 1, 1)) rfl ?_
      refine Fr.callI (y2 := 27) (na := 2) (as := [rf 54, it v1]) (rest := []) (by decide +kernel : zi 29 33 = some (.invokevirtual 92, 3)) rfl (by decide +kernel) (by decide +kernel) rfl rfl (zok_V rfl (by decide) (by decide +kernel) (by decide +kernel) (zrecv_c (c := 53) (by omega) (by decide +kernel)) rfl (Nat.le_of_ble_eq_true rfl)) h (fun r7 s6 h => ?_)
      refine Fr.bipush (by decide +kernel : zi 29 36 = some (.bipush 10, 2)) (by decide) ?_
      refine Fr.if2 (q := 54) (by decide +kernel : zi 29 38 = some (.if_icmp .eq 16, 3)) (by decide +kernel) (fun g9 => ?_) (fun g9 => ?_)
      · have h := h.1 g9
        exact h
      · have h := h.2 g9
        refine Fr.aldn (c := 54) (by decide +kernel : zi 29 41 = some (.aload_n 0, 1)) rfl ⟨by omega, by omega⟩ ?_
        refine Fr.aldn (c := 54) (by decide +kernel : zi 29 42 = some (.aload_n 0, 1)) rfl ⟨by omega, by omega⟩ ?_
        refine Fr.ildn (by decide +kernel : zi 29 43 = some (.iload_n 1, 1)) rfl ?_
        refine Fr.ildn (by decide +kernel : zi 29 44 = some (.iload_n 2, 1)) rfl ?_
        refine Fr.ildn (by decide +kernel : zi 29 45 = some (.iload_n 1, 1)) rfl ?_
        refine Fr.isub (by decide +kernel : zi 29 46 = some (.isub, 1)) ?_
        refine Fr.callI (y2 := 244) (na := 3) (as := [rf 54, it v1, it (zw (r3 - v1))]) (rest := [rf 54]) (by decide +kernel : zi 29 47 = some (.invokevirtual 95, 3)) rfl (by decide +kernel) (by decide +kernel) rfl rfl (zok_V rfl (by decide) (by decide +kernel) (by decide +kernel) (zrecv_c (c := 53) (by omega) (by decide +kernel)) rfl (Nat.le_of_ble_eq_true rfl)) h (fun r9 s8 h => ?_)
        refine Fr.ildn (by decide +kernel : zi 29 50 = some (.iload_n 1, 1)) rfl ?_
        refine Fr.callV (y2 := 240) (na := 3) (as := [rf 54, it r9, it v1]) (rest := []) (by decide +kernel : zi 29 51 = some (.invokevirtual 99, 3)) rfl (by decide +kernel) (by decide +kernel) rfl rfl (zok_V rfl (by decide) (by decide +kernel) (by decide +kernel) (zrecv_c (c := 53) (by omega) (by decide +kernel)) rfl (Nat.le_of_ble_eq_true rfl)) h (fun s10 h => ?_)
        exact h
theorem f29_54 {xs : Nat → Int} {L : Nat} {T : List (Nat × Int × Int)} {n : Nat} {d : Nat} {v1 : Int} {v2 : Int} {s : Pl} {P : Pl → Prop} (hK : KR T n) (h : Ev xs L T n d 230 [it v2, it (zw (v1 + 1))] s (qi fun r2 s1 => Fr xs L T n d 29 7 [some (rf 54), some (it r2), some (it v2)] [] s1 (qv P))) : Fr xs L T n d 29 54 [some (rf 54), some (it v1), some (it v2)] [] s (qv P) := by
  have hn := hK.1
  refine Fr.ildn (by decide +kernel : zi 29 54 = some (.iload_n 2, 1)) rfl ?_
  refine Fr.ildn (by decide +kernel : zi 29 55 = some (.iload_n 1, 1)) rfl ?_
  refine Fr.iconst (by decide +kernel : zi 29 56 = some (.iconst 1, 1)) (by decide) ?_
  refine Fr.iadd (by decide +kernel : zi 29 57 = some (.iadd, 1)) ?_
  refine Fr.callI (y2 := 230) (na := 2) (as := [it v2, it (zw (v1 + 1))]) (rest := []) (by decide +kernel : zi 29 58 = some (.invokestatic 103, 3)) rfl (by decide +kernel) (by decide +kernel) rfl rfl (zok_S rfl (by decide) (by decide +kernel) rfl (Nat.le_of_ble_eq_true rfl)) h (fun r2 s1 h => ?_)
  refine Fr.istn (lv2 := [some (rf 54), some (it r2), some (it v2)]) (by decide +kernel : zi 29 61 = some (.istore_n 1, 1)) (Nat.le_of_ble_eq_true rfl) rfl ?_
  refine Fr.goto (q := 7) (by decide +kernel : zi 29 62 = some (.goto (-55), 3)) (by decide +kernel) ?_
  exact h
-- 30 X2_numberFrom
theorem f30_0 {xs : Nat → Int} {L : Nat} {T : List (Nat × Int × Int)} {n : Nat} {d : Nat} {v1 : Int} {v2 : Int} {s : Pl} {P : Int → Pl → Prop} (hK : KR T n) (h : ((v2 ≤ 4 → Fr xs L T n d 30 14 [some (rf 54), some (it v1), some (it v2), some (it 0), some (it 0)] [] s (qi P)) ∧ (¬ (v2 ≤ 4) → P 301 s))) : Fr xs L T n d 30 0 [some (rf 54), some (it v1), some (it v2), none, none] [] s (qi P) := by
  have hn := hK.1
  refine Fr.ildn (by decide +kernel : zi 30 0 = some (.iload_n 2, 1)) rfl ?_
  refine Fr.iconst (by decide +kernel : zi 30 1 = some (.iconst 4, 1)) (by decide) ?_
  refine Fr.if2 (q := 9) (by decide +kernel : zi 30 2 = some (.if_icmp .le 7, 3)) (by decide +kernel) (fun g9 => ?_) (fun g9 => ?_)
  · have h := h.1 g9
    refine Fr.iconst (by decide +kernel : zi 30 9 = some (.iconst 0, 1)) (by decide) ?_
    refine Fr.istn (lv2 := [some (rf 54), some (it v1), some (it v2), some (it 0), none]) (by decide +kernel : zi 30 10 = some (.istore_n 3, 1)) (Nat.le_of_ble_eq_true rfl) rfl ?_
    refine Fr.iconst (by decide +kernel : zi 30 11 = some (.iconst 0, 1)) (by decide) ?_
    refine Fr.ist (lv2 := [some (rf 54), some (it v1), some (it v2), some (it 0), some (it 0)]) (by decide +kernel : zi 30 12 = some (.istore 4, 2)) (Nat.le_of_ble_eq_true rfl) rfl ?_
    exact h
  · have h := h.2 g9
    refine Fr.sipush (by decide +kernel : zi 30 5 = some (.sipush 301, 3)) (by decide) ?_
    exact Fr.retI (by decide +kernel : zi 30 8 = some (.ireturn, 1)) (by decide +kernel) h
theorem e30 {xs : Nat → Int} {L : Nat} {T : List (Nat × Int × Int)} {n : Nat} {d : Nat} {v1 : Int} {v2 : Int} {s : Pl} {Q : Option AV → Pl → Prop} (hd : 1 ≤ d) (k : Fr xs L T n (d - 1) 30 0 [some (rf 54), some (it v1), some (it v2), none, none] [] s Q) : Ev xs L T n d 30 [rf 54, it v1, it v2] s Q := Ev.of (by decide) _ rfl hd k
theorem f30_14 {xs : Nat → Int} {L : Nat} {T : List (Nat × Int × Int)} {n : Nat} {d : Nat} {v1 : Int} {v2 : Int} {v3 : Int} {v4 : Int} {s : Pl} {P : Int → Pl → Prop} (hK : KR T n) (h : ((v2 ≤ v4 → P (zw (1000 + v3)) s) ∧ (¬ (v2 ≤ v4) → Ev xs L T n d 27 [rf 54, it (zw (v1 + v4))] s (qi fun r2 s1 => Fr xs L T n d 30 14 [some (rf 54), some (it v1), some (it v2), some (it (zw ((zw ((zw (10 * v3)) + r2)) - 48))), some (it (zw (v4 + 1)))] [] s1 (qi P))))) : Fr xs L T n d 30 14 [some (rf 54), some (it v1), some (it v2), some (it v3), some (it v4)] [] s (qi P) := by
  have hn := hK.1
  refine Fr.ild (by decide +kernel : zi 30 14 = some (.iload 4, 2)) rfl ?_
  refine Fr.ildn (by decide +kernel : zi 30 16 = some (.iload_n 2, 1)) rfl ?_
  refine Fr.if2 (q := 43) (by decide +kernel : zi 30 17 = some (.if_icmp .ge 26, 3)) (by decide +kernel) (fun g9 => ?_) (fun g9 => ?_)
  · have h := h.1 g9
    refine Fr.sipush (by decide +kernel : zi 30 43 = some (.sipush 1000, 3)) (by decide) ?_
    refine Fr.ildn (by decide +kernel : zi 30 46 = some (.iload_n 3, 1)) rfl ?_
    refine Fr.iadd (by decide +kernel : zi 30 47 = some (.iadd, 1)) ?_
    exact Fr.retI (by decide +kernel : zi 30 48 = some (.ireturn, 1)) (by decide +kernel) h
  · have h := h.2 g9
    refine Fr.bipush (by decide +kernel : zi 30 20 = some (.bipush 10, 2)) (by decide) ?_
    refine Fr.ildn (by decide +kernel : zi 30 22 = some (.iload_n 3, 1)) rfl ?_
    refine Fr.imul (by decide +kernel : zi 30 23 = some (.imul, 1)) ?_
    refine Fr.aldn (c := 54) (by decide +kernel : zi 30 24 = some (.aload_n 0, 1)) rfl ⟨by omega, by omega⟩ ?_
    refine Fr.ildn (by decide +kernel : zi 30 25 = some (.iload_n 1, 1)) rfl ?_
    refine Fr.ild (by decide +kernel : zi 30 26 = some (.iload 4, 2)) rfl ?_
    refine Fr.iadd (by decide +kernel : zi 30 28 = some (.iadd, 1)) ?_
    refine Fr.callI (y2 := 27) (na := 2) (as := [rf 54, it (zw (v1 + v4))]) (rest := [it (zw (10 * v3))]) (by decide +kernel : zi 30 29 = some (.invokevirtual 92, 3)) rfl (by decide +kernel) (by decide +kernel) rfl rfl (zok_V rfl (by decide) (by decide +kernel) (by decide +kernel) (zrecv_c (c := 53) (by omega) (by decide +kernel)) rfl (Nat.le_of_ble_eq_true rfl)) h (fun r2 s1 h => ?_)
    refine Fr.iadd (by decide +kernel : zi 30 32 = some (.iadd, 1)) ?_
    refine Fr.bipush (by decide +kernel : zi 30 33 = some (.bipush 48, 2)) (by decide) ?_
    refine Fr.isub (by decide +kernel : zi 30 35 = some (.isub, 1)) ?_
    refine Fr.istn (lv2 := [some (rf 54), some (it v1), some (it v2), some (it (zw ((zw ((zw (10 * v3)) + r2)) - 48))), some (it v4)]) (by decide +kernel : zi 30 36 = some (.istore_n 3, 1)) (Nat.le_of_ble_eq_true rfl) rfl ?_
    refine Fr.iinc (lv2 := [some (rf 54), some (it v1), some (it v2), some (it (zw ((zw ((zw (10 * v3)) + r2)) - 48))), some (it (zw (v4 + 1)))]) (by decide +kernel : zi 30 37 = some (.iinc 4 1, 3)) (Nat.le_of_ble_eq_true rfl) rfl rfl ?_
    refine Fr.goto (q := 14) (by decide +kernel : zi 30 40 = some (.goto (-26), 3)) (by decide +kernel) ?_
    exact h
-- 31 X2_wordFrom
theorem f31_0 {xs : Nat → Int} {L : Nat} {T : List (Nat × Int × Int)} {n : Nat} {d : Nat} {v1 : Int} {v2 : Int} {s : Pl} {P : Int → Pl → Prop} (hK : KR T n) (h : Fr xs L T n d 31 2 [some (rf 54), some (it v1), some (it v2), some (it 0)] [] s (qi P)) : Fr xs L T n d 31 0 [some (rf 54), some (it v1), some (it v2), none] [] s (qi P) := by
  have hn := hK.1
  refine Fr.iconst (by decide +kernel : zi 31 0 = some (.iconst 0, 1)) (by decide) ?_
  refine Fr.istn (lv2 := [some (rf 54), some (it v1), some (it v2), some (it 0)]) (by decide +kernel : zi 31 1 = some (.istore_n 3, 1)) (Nat.le_of_ble_eq_true rfl) rfl ?_
  exact h
theorem e31 {xs : Nat → Int} {L : Nat} {T : List (Nat × Int × Int)} {n : Nat} {d : Nat} {v1 : Int} {v2 : Int} {s : Pl} {Q : Option AV → Pl → Prop} (hd : 1 ≤ d) (k : Fr xs L T n (d - 1) 31 0 [some (rf 54), some (it v1), some (it v2), none] [] s Q) : Ev xs L T n d 31 [rf 54, it v1, it v2] s Q := Ev.of (by decide) _ rfl hd k
theorem f31_2 {xs : Nat → Int} {L : Nat} {T : List (Nat × Int × Int)} {n : Nat} {d : Nat} {v1 : Int} {v2 : Int} {v3 : Int} {s : Pl} {P : Int → Pl → Prop} (hK : KR T n) (h : Ev xs L T n d 232 [rf 100003] s (qi fun r2 s1 => ((r2 ≤ zw (v3 * 5) → P 301 s1) ∧ (¬ (r2 ≤ zw (v3 * 5)) → Ev xs L T n d 32 [rf 54, it (zw (v3 * 5)), it v1, it v2] s1 (qi fun r4 s3 => ((r4 = 0 → Fr xs L T n d 31 2 [some (rf 54), some (it v1), some (it v2), some (it (zw (v3 + 1)))] [] s3 (qi P)) ∧ (¬ (r4 = 0) → P v3 s3))))))) : Fr xs L T n d 31 2 [some (rf 54), some (it v1), some (it v2), some (it v3)] [] s (qi P) := by
  have hn := hK.1
  refine Fr.ildn (by decide +kernel : zi 31 2 = some (.iload_n 3, 1)) rfl ?_
  refine Fr.iconst (by decide +kernel : zi 31 3 = some (.iconst 5, 1)) (by decide) ?_
  refine Fr.imul (by decide +kernel : zi 31 4 = some (.imul, 1)) ?_
  refine Fr.ldc (v := rf 100003) (by decide +kernel : zi 31 5 = some (.ldc 120, 2)) (by decide +kernel) ?_
  refine Fr.callI (y2 := 232) (na := 1) (as := [rf 100003]) (rest := [it (zw (v3 * 5))]) (by decide +kernel : zi 31 7 = some (.invokevirtual 122, 3)) rfl (by decide +kernel) (by decide +kernel) rfl rfl (zok_V rfl (by decide) (by decide +kernel) (by decide +kernel) (zrecv_s (by decide) (by decide +kernel)) rfl (Nat.le_of_ble_eq_true rfl)) h (fun r2 s1 h => ?_)
  refine Fr.if2 (q := 33) (by decide +kernel : zi 31 10 = some (.if_icmp .ge 23, 3)) (by decide +kernel) (fun g9 => ?_) (fun g9 => ?_)
  · have h := h.1 g9
    refine Fr.sipush (by decide +kernel : zi 31 33 = some (.sipush 301, 3)) (by decide) ?_
    exact Fr.retI (by decide +kernel : zi 31 36 = some (.ireturn, 1)) (by decide +kernel) h
  · have h := h.2 g9
    refine Fr.aldn (c := 54) (by decide +kernel : zi 31 13 = some (.aload_n 0, 1)) rfl ⟨by omega, by omega⟩ ?_
    refine Fr.ildn (by decide +kernel : zi 31 14 = some (.iload_n 3, 1)) rfl ?_
    refine Fr.iconst (by decide +kernel : zi 31 15 = some (.iconst 5, 1)) (by decide) ?_
    refine Fr.imul (by decide +kernel : zi 31 16 = some (.imul, 1)) ?_
    refine Fr.ildn (by decide +kernel : zi 31 17 = some (.iload_n 1, 1)) rfl ?_
    refine Fr.ildn (by decide +kernel : zi 31 18 = some (.iload_n 2, 1)) rfl ?_
    refine Fr.callI (y2 := 32) (na := 4) (as := [rf 54, it (zw (v3 * 5)), it v1, it v2]) (rest := []) (by decide +kernel : zi 31 19 = some (.invokevirtual 128, 3)) rfl (by decide +kernel) (by decide +kernel) rfl rfl (zok_V rfl (by decide) (by decide +kernel) (by decide +kernel) (zrecv_c (c := 53) (by omega) (by decide +kernel)) rfl (Nat.le_of_ble_eq_true rfl)) h (fun r4 s3 h => ?_)
    refine Fr.if0 (q := 27) (by decide +kernel : zi 31 22 = some (.ifCond .eq 5, 3)) (by decide +kernel) (fun g9 => ?_) (fun g9 => ?_)
    · have h := h.1 g9
      refine Fr.iinc (lv2 := [some (rf 54), some (it v1), some (it v2), some (it (zw (v3 + 1)))]) (by decide +kernel : zi 31 27 = some (.iinc 3 1, 3)) (Nat.le_of_ble_eq_true rfl) rfl rfl ?_
      refine Fr.goto (q := 2) (by decide +kernel : zi 31 30 = some (.goto (-28), 3)) (by decide +kernel) ?_
      exact h
    · have h := h.2 g9
      refine Fr.ildn (by decide +kernel : zi 31 25 = some (.iload_n 3, 1)) rfl ?_
      exact Fr.retI (by decide +kernel : zi 31 26 = some (.ireturn, 1)) (by decide +kernel) h
-- 32 X2_spells
theorem f32_0 {xs : Nat → Int} {L : Nat} {T : List (Nat × Int × Int)} {n : Nat} {d : Nat} {v1 : Int} {v2 : Int} {v3 : Int} {s : Pl} {P : Int → Pl → Prop} (hK : KR T n) (h : ((5 ≤ v3 → P 0 s) ∧ (¬ (5 ≤ v3) → ((v1 < 0 → P 0 s) ∧ (¬ (v1 < 0) → Ev xs L T n d 232 [rf 100003] s (qi fun r2 s1 => ((r2 ≤ zw (v1 + v3) → P 0 s1) ∧ (¬ (r2 ≤ zw (v1 + v3)) → Ev xs L T n d 233 [rf 100003, it (zw (v1 + v3))] s1 (qi fun r4 s3 => ((r4 = 32 → ((v2 < 0 → P 0 s3) ∧ (¬ (v2 < 0) → ((zw (v2 + v3) ≤ 160 → Fr xs L T n d 32 55 [some (rf 54), some (it v1), some (it v2), some (it v3), some (it 0)] [] s3 (qi P)) ∧ (¬ (zw (v2 + v3) ≤ 160) → P 0 s3))))) ∧ (¬ (r4 = 32) → P 0 s3))))))))))) : Fr xs L T n d 32 0 [some (rf 54), some (it v1), some (it v2), some (it v3), none] [] s (qi P) := by
  have hn := hK.1
  refine Fr.ildn (by decide +kernel : zi 32 0 = some (.iload_n 3, 1)) rfl ?_
  refine Fr.iconst (by decide +kernel : zi 32 1 = some (.iconst 5, 1)) (by decide) ?_
  refine Fr.if2 (q := 33) (by decide +kernel : zi 32 2 = some (.if_icmp .ge 31, 3)) (by decide +kernel) (fun g9 => ?_) (fun g9 => ?_)
  · have h := h.1 g9
    refine Fr.iconst (by decide +kernel : zi 32 33 = some (.iconst 0, 1)) (by decide) ?_
    exact Fr.retZ (by decide +kernel : zi 32 34 = some (.ireturn, 1)) (by decide +kernel) (by decide) h
  · have h := h.2 g9
    refine Fr.ildn (by decide +kernel : zi 32 5 = some (.iload_n 1, 1)) rfl ?_
    refine Fr.if0 (q := 33) (by decide +kernel : zi 32 6 = some (.ifCond .lt 27, 3)) (by decide +kernel) (fun g9 => ?_) (fun g9 => ?_)
    · have h := h.1 g9
      refine Fr.iconst (by decide +kernel : zi 32 33 = some (.iconst 0, 1)) (by decide) ?_
      exact Fr.retZ (by decide +kernel : zi 32 34 = some (.ireturn, 1)) (by decide +kernel) (by decide) h
    · have h := h.2 g9
      refine Fr.ildn (by decide +kernel : zi 32 9 = some (.iload_n 1, 1)) rfl ?_
      refine Fr.ildn (by decide +kernel : zi 32 10 = some (.iload_n 3, 1)) rfl ?_
      refine Fr.iadd (by decide +kernel : zi 32 11 = some (.iadd, 1)) ?_
      refine Fr.ldc (v := rf 100003) (by decide +kernel : zi 32 12 = some (.ldc 120, 2)) (by decide +kernel) ?_
      refine Fr.callI (y2 := 232) (na := 1) (as := [rf 100003]) (rest := [it (zw (v1 + v3))]) (by decide +kernel : zi 32 14 = some (.invokevirtual 122, 3)) rfl (by decide +kernel) (by decide +kernel) rfl rfl (zok_V rfl (by decide) (by decide +kernel) (by decide +kernel) (zrecv_s (by decide) (by decide +kernel)) rfl (Nat.le_of_ble_eq_true rfl)) h (fun r2 s1 h => ?_)
      refine Fr.if2 (q := 33) (by decide +kernel : zi 32 17 = some (.if_icmp .ge 16, 3)) (by decide +kernel) (fun g9 => ?_) (fun g9 => ?_)
      · have h := h.1 g9
        refine Fr.iconst (by decide +kernel : zi 32 33 = some (.iconst 0, 1)) (by decide) ?_
        exact Fr.retZ (by decide +kernel : zi 32 34 = some (.ireturn, 1)) (by decide +kernel) (by decide) h
      · have h := h.2 g9
        refine Fr.ldc (v := rf 100003) (by decide +kernel : zi 32 20 = some (.ldc 120, 2)) (by decide +kernel) ?_
        refine Fr.ildn (by decide +kernel : zi 32 22 = some (.iload_n 1, 1)) rfl ?_
        refine Fr.ildn (by decide +kernel : zi 32 23 = some (.iload_n 3, 1)) rfl ?_
        refine Fr.iadd (by decide +kernel : zi 32 24 = some (.iadd, 1)) ?_
        refine Fr.callI (y2 := 233) (na := 2) (as := [rf 100003, it (zw (v1 + v3))]) (rest := []) (by decide +kernel : zi 32 25 = some (.invokevirtual 132, 3)) rfl (by decide +kernel) (by decide +kernel) rfl rfl (zok_V rfl (by decide) (by decide +kernel) (by decide +kernel) (zrecv_s (by decide) (by decide +kernel)) rfl (Nat.le_of_ble_eq_true rfl)) h (fun r4 s3 h => ?_)
        refine Fr.bipush (by decide +kernel : zi 32 28 = some (.bipush 32, 2)) (by decide) ?_
        refine Fr.if2 (q := 35) (by decide +kernel : zi 32 30 = some (.if_icmp .eq 5, 3)) (by decide +kernel) (fun g9 => ?_) (fun g9 => ?_)
        · have h := h.1 g9
          refine Fr.ildn (by decide +kernel : zi 32 35 = some (.iload_n 2, 1)) rfl ?_
          refine Fr.if0 (q := 50) (by decide +kernel : zi 32 36 = some (.ifCond .lt 14, 3)) (by decide +kernel) (fun g9 => ?_) (fun g9 => ?_)
          · have h := h.1 g9
            refine Fr.iconst (by decide +kernel : zi 32 50 = some (.iconst 0, 1)) (by decide) ?_
            exact Fr.retZ (by decide +kernel : zi 32 51 = some (.ireturn, 1)) (by decide +kernel) (by decide) h
          · have h := h.2 g9
            refine Fr.ildn (by decide +kernel : zi 32 39 = some (.iload_n 2, 1)) rfl ?_
            refine Fr.ildn (by decide +kernel : zi 32 40 = some (.iload_n 3, 1)) rfl ?_
            refine Fr.iadd (by decide +kernel : zi 32 41 = some (.iadd, 1)) ?_
            refine Fr.aldn (c := 54) (by decide +kernel : zi 32 42 = some (.aload_n 0, 1)) rfl ⟨by omega, by omega⟩ ?_
            refine Fr.gR (c := 53) (c2 := 55) (ci := 2) (k := 0) 0 (by decide +kernel : zi 32 43 = some (.getfield 9, 3)) (by decide +kernel) (by decide +kernel) (by decide +kernel) (by omega) rfl (fun q => q (53, 0, 55) (hK.2.1 _ (by decide +kernel))) ?_
            refine Fr.alen (c := 54) (N := 160) (K := 20) (by decide +kernel : zi 32 46 = some (.arraylength, 1)) (by decide +kernel) (by decide) (by omega) ?_
            refine Fr.if2 (q := 52) (by decide +kernel : zi 32 47 = some (.if_icmp .le 5, 3)) (by decide +kernel) (fun g9 => ?_) (fun g9 => ?_)
            · have h := h.1 g9
              refine Fr.iconst (by decide +kernel : zi 32 52 = some (.iconst 0, 1)) (by decide) ?_
              refine Fr.ist (lv2 := [some (rf 54), some (it v1), some (it v2), some (it v3), some (it 0)]) (by decide +kernel : zi 32 53 = some (.istore 4, 2)) (Nat.le_of_ble_eq_true rfl) rfl ?_
              exact h
            · have h := h.2 g9
              refine Fr.iconst (by decide +kernel : zi 32 50 = some (.iconst 0, 1)) (by decide) ?_
              exact Fr.retZ (by decide +kernel : zi 32 51 = some (.ireturn, 1)) (by decide +kernel) (by decide) h
        · have h := h.2 g9
          refine Fr.iconst (by decide +kernel : zi 32 33 = some (.iconst 0, 1)) (by decide) ?_
          exact Fr.retZ (by decide +kernel : zi 32 34 = some (.ireturn, 1)) (by decide +kernel) (by decide) h
theorem e32 {xs : Nat → Int} {L : Nat} {T : List (Nat × Int × Int)} {n : Nat} {d : Nat} {v1 : Int} {v2 : Int} {v3 : Int} {s : Pl} {Q : Option AV → Pl → Prop} (hd : 1 ≤ d) (k : Fr xs L T n (d - 1) 32 0 [some (rf 54), some (it v1), some (it v2), some (it v3), none] [] s Q) : Ev xs L T n d 32 [rf 54, it v1, it v2, it v3] s Q := Ev.of (by decide) _ rfl hd k
theorem f32_55 {xs : Nat → Int} {L : Nat} {T : List (Nat × Int × Int)} {n : Nat} {d : Nat} {v1 : Int} {v2 : Int} {v3 : Int} {v4 : Int} {s : Pl} {P : Int → Pl → Prop} (hK : KR T n) (h : ((v3 ≤ v4 → P 1 s) ∧ (¬ (v3 ≤ v4) → Ev xs L T n d 233 [rf 100003, it (zw (v1 + v4))] s (qi fun r2 s1 => (0 ≤ zw (v2 + v4) ∧ zw (v2 + v4) < 160) ∧ ((r2 = s1 54 (zw (v2 + v4)) → Fr xs L T n d 32 55 [some (rf 54), some (it v1), some (it v2), some (it v3), some (it (zw (v4 + 1)))] [] s1 (qi P)) ∧ (¬ (r2 = s1 54 (zw (v2 + v4))) → P 0 s1)))))) : Fr xs L T n d 32 55 [some (rf 54), some (it v1), some (it v2), some (it v3), some (it v4)] [] s (qi P) := by
  have hn := hK.1
  refine Fr.ild (by decide +kernel : zi 32 55 = some (.iload 4, 2)) rfl ?_
  refine Fr.ildn (by decide +kernel : zi 32 57 = some (.iload_n 3, 1)) rfl ?_
  refine Fr.if2 (q := 90) (by decide +kernel : zi 32 58 = some (.if_icmp .ge 32, 3)) (by decide +kernel) (fun g9 => ?_) (fun g9 => ?_)
  · have h := h.1 g9
    refine Fr.iconst (by decide +kernel : zi 32 90 = some (.iconst 1, 1)) (by decide) ?_
    exact Fr.retZ (by decide +kernel : zi 32 91 = some (.ireturn, 1)) (by decide +kernel) (by decide) h
  · have h := h.2 g9
    refine Fr.ldc (v := rf 100003) (by decide +kernel : zi 32 61 = some (.ldc 120, 2)) (by decide +kernel) ?_
    refine Fr.ildn (by decide +kernel : zi 32 63 = some (.iload_n 1, 1)) rfl ?_
    refine Fr.ild (by decide +kernel : zi 32 64 = some (.iload 4, 2)) rfl ?_
    refine Fr.iadd (by decide +kernel : zi 32 66 = some (.iadd, 1)) ?_
    refine Fr.callI (y2 := 233) (na := 2) (as := [rf 100003, it (zw (v1 + v4))]) (rest := []) (by decide +kernel : zi 32 67 = some (.invokevirtual 132, 3)) rfl (by decide +kernel) (by decide +kernel) rfl rfl (zok_V rfl (by decide) (by decide +kernel) (by decide +kernel) (zrecv_s (by decide) (by decide +kernel)) rfl (Nat.le_of_ble_eq_true rfl)) h (fun r2 s1 h => ?_)
    refine Fr.aldn (c := 54) (by decide +kernel : zi 32 70 = some (.aload_n 0, 1)) rfl ⟨by omega, by omega⟩ ?_
    refine Fr.gR (c := 53) (c2 := 55) (ci := 2) (k := 0) 0 (by decide +kernel : zi 32 71 = some (.getfield 9, 3)) (by decide +kernel) (by decide +kernel) (by decide +kernel) (by omega) rfl (fun q => q (53, 0, 55) (hK.2.1 _ (by decide +kernel))) ?_
    refine Fr.ildn (by decide +kernel : zi 32 74 = some (.iload_n 2, 1)) rfl ?_
    refine Fr.ild (by decide +kernel : zi 32 75 = some (.iload 4, 2)) rfl ?_
    refine Fr.iadd (by decide +kernel : zi 32 77 = some (.iadd, 1)) ?_
    obtain ⟨⟨g0, g1⟩, h⟩ := h
    refine Fr.iald (c := 54) (N := 160) (by decide +kernel : zi 32 78 = some (.iaload, 1)) (by decide +kernel) (by omega) g0 g1 ?_
    refine Fr.if2 (q := 84) (by decide +kernel : zi 32 79 = some (.if_icmp .eq 5, 3)) (by decide +kernel) (fun g9 => ?_) (fun g9 => ?_)
    · have h := h.1 g9
      refine Fr.iinc (lv2 := [some (rf 54), some (it v1), some (it v2), some (it v3), some (it (zw (v4 + 1)))]) (by decide +kernel : zi 32 84 = some (.iinc 4 1, 3)) (Nat.le_of_ble_eq_true rfl) rfl rfl ?_
      refine Fr.goto (q := 55) (by decide +kernel : zi 32 87 = some (.goto (-32), 3)) (by decide +kernel) ?_
      exact h
    · have h := h.2 g9
      refine Fr.iconst (by decide +kernel : zi 32 82 = some (.iconst 0, 1)) (by decide) ?_
      exact Fr.retZ (by decide +kernel : zi 32 83 = some (.ireturn, 1)) (by decide +kernel) (by decide) h
-- 240 X2_note
theorem f240_0 {xs : Nat → Int} {L : Nat} {T : List (Nat × Int × Int)} {n : Nat} {d : Nat} {v1 : Int} {v2 : Int} {s : Pl} {P : Pl → Prop} (hK : KR T n) (h : ((s 53 4 < 0 → P s) ∧ (¬ (s 53 4 < 0) → ((161 ≤ s 53 4 → P s) ∧ (¬ (161 ≤ s 53 4) → (0 ≤ s 53 4 ∧ s 53 4 < 161) ∧ (0 ≤ (zup s 55 (s 53 4) v1) 53 4 ∧ (zup s 55 (s 53 4) v1) 53 4 < 161) ∧ P (zup (zup (zup s 55 (s 53 4) v1) 56 ((zup s 55 (s 53 4) v1) 53 4) v2) 53 4 (zw (((zup (zup s 55 (s 53 4) v1) 56 ((zup s 55 (s 53 4) v1) 53 4) v2) 53 4) + 1)))))))) : Fr xs L T n d 240 0 [some (rf 54), some (it v1), some (it v2)] [] s (qv P) := by
  have hn := hK.1
  refine Fr.aldn (c := 54) (by decide +kernel : zi 240 0 = some (.aload_n 0, 1)) rfl ⟨by omega, by omega⟩ ?_
  refine Fr.gI (c := 53) (ci := 2) (k := 4) (t := 0) 4 (by decide +kernel : zi 240 1 = some (.getfield 85, 3)) (by decide +kernel) (by decide +kernel) (by decide +kernel) (by omega) rfl ?_
  refine Fr.if0 (q := 49) (by decide +kernel : zi 240 4 = some (.ifCond .lt 45, 3)) (by decide +kernel) (fun g9 => ?_) (fun g9 => ?_)
  · have h := h.1 g9
    exact Fr.retV (by decide +kernel : zi 240 49 = some (.return_, 1)) (by decide +kernel) h
  · have h := h.2 g9
    refine Fr.aldn (c := 54) (by decide +kernel : zi 240 7 = some (.aload_n 0, 1)) rfl ⟨by omega, by omega⟩ ?_
    refine Fr.gI (c := 53) (ci := 2) (k := 4) (t := 0) 4 (by decide +kernel : zi 240 8 = some (.getfield 85, 3)) (by decide +kernel) (by decide +kernel) (by decide +kernel) (by omega) rfl ?_
    refine Fr.aldn (c := 54) (by decide +kernel : zi 240 11 = some (.aload_n 0, 1)) rfl ⟨by omega, by omega⟩ ?_
    refine Fr.gR (c := 53) (c2 := 56) (ci := 2) (k := 2) 2 (by decide +kernel : zi 240 12 = some (.getfield 15, 3)) (by decide +kernel) (by decide +kernel) (by decide +kernel) (by omega) rfl (fun q => q (53, 2, 56) (hK.2.1 _ (by decide +kernel))) ?_
    refine Fr.alen (c := 55) (N := 161) (K := 20) (by decide +kernel : zi 240 15 = some (.arraylength, 1)) (by decide +kernel) (by decide) (by omega) ?_
    refine Fr.if2 (q := 49) (by decide +kernel : zi 240 16 = some (.if_icmp .ge 33, 3)) (by decide +kernel) (fun g9 => ?_) (fun g9 => ?_)
    · have h := h.1 g9
      exact Fr.retV (by decide +kernel : zi 240 49 = some (.return_, 1)) (by decide +kernel) h
    · have h := h.2 g9
      refine Fr.aldn (c := 54) (by decide +kernel : zi 240 19 = some (.aload_n 0, 1)) rfl ⟨by omega, by omega⟩ ?_
      refine Fr.gR (c := 53) (c2 := 56) (ci := 2) (k := 2) 2 (by decide +kernel : zi 240 20 = some (.getfield 15, 3)) (by decide +kernel) (by decide +kernel) (by decide +kernel) (by omega) rfl (fun q => q (53, 2, 56) (hK.2.1 _ (by decide +kernel))) ?_
      refine Fr.aldn (c := 54) (by decide +kernel : zi 240 23 = some (.aload_n 0, 1)) rfl ⟨by omega, by omega⟩ ?_
      refine Fr.gI (c := 53) (ci := 2) (k := 4) (t := 0) 4 (by decide +kernel : zi 240 24 = some (.getfield 85, 3)) (by decide +kernel) (by decide +kernel) (by decide +kernel) (by omega) rfl ?_
      refine Fr.ildn (by decide +kernel : zi 240 27 = some (.iload_n 1, 1)) rfl ?_
      obtain ⟨⟨g0, g1⟩, h⟩ := h
      refine Fr.iast (c := 55) (N := 161) (by decide +kernel : zi 240 28 = some (.iastore, 1)) (by decide +kernel) (by omega) g0 g1 ?_
      refine Fr.aldn (c := 54) (by decide +kernel : zi 240 29 = some (.aload_n 0, 1)) rfl ⟨by omega, by omega⟩ ?_
      refine Fr.gR (c := 53) (c2 := 57) (ci := 2) (k := 3) 3 (by decide +kernel : zi 240 30 = some (.getfield 18, 3)) (by decide +kernel) (by decide +kernel) (by decide +kernel) (by omega) rfl (fun q => q (53, 3, 57) (hK.2.1 _ (by decide +kernel))) ?_
      refine Fr.aldn (c := 54) (by decide +kernel : zi 240 33 = some (.aload_n 0, 1)) rfl ⟨by omega, by omega⟩ ?_
      refine Fr.gI (c := 53) (ci := 2) (k := 4) (t := 0) 4 (by decide +kernel : zi 240 34 = some (.getfield 85, 3)) (by decide +kernel) (by decide +kernel) (by decide +kernel) (by omega) rfl ?_
      refine Fr.ildn (by decide +kernel : zi 240 37 = some (.iload_n 2, 1)) rfl ?_
      obtain ⟨⟨g0, g1⟩, h⟩ := h
      refine Fr.iast (c := 56) (N := 161) (by decide +kernel : zi 240 38 = some (.iastore, 1)) (by decide +kernel) (by omega) g0 g1 ?_
      refine Fr.aldn (c := 54) (by decide +kernel : zi 240 39 = some (.aload_n 0, 1)) rfl ⟨by omega, by omega⟩ ?_
      refine Fr.dup (by decide +kernel : zi 240 40 = some (.dup, 1)) rfl ?_
      refine Fr.gI (c := 53) (ci := 2) (k := 4) (t := 0) 4 (by decide +kernel : zi 240 41 = some (.getfield 85, 3)) (by decide +kernel) (by decide +kernel) (by decide +kernel) (by omega) rfl ?_
      refine Fr.iconst (by decide +kernel : zi 240 44 = some (.iconst 1, 1)) (by decide) ?_
      refine Fr.iadd (by decide +kernel : zi 240 45 = some (.iadd, 1)) ?_
      refine Fr.pI (c := 53) (ci := 2) (k := 4) 4 (by decide +kernel : zi 240 46 = some (.putfield 85, 3)) (by decide +kernel) (by decide +kernel) (by decide +kernel) (by omega) rfl ?_
      exact Fr.retV (by decide +kernel : zi 240 49 = some (.return_, 1)) (by decide +kernel) h
theorem e240 {xs : Nat → Int} {L : Nat} {T : List (Nat × Int × Int)} {n : Nat} {d : Nat} {v1 : Int} {v2 : Int} {s : Pl} {Q : Option AV → Pl → Prop} (hd : 1 ≤ d) (k : Fr xs L T n (d - 1) 240 0 [some (rf 54), some (it v1), some (it v2)] [] s Q) : Ev xs L T n d 240 [rf 54, it v1, it v2] s Q := Ev.of (by decide) _ rfl hd k
-- 241 X2_isLetter
theorem f241_0 {xs : Nat → Int} {L : Nat} {T : List (Nat × Int × Int)} {n : Nat} {d : Nat} {v0 : Int} {s : Pl} {P : Int → Pl → Prop} (hK : KR T n) (h : ((v0 < 97 → P 0 s) ∧ (¬ (v0 < 97) → ((122 < v0 → P 0 s) ∧ (¬ (122 < v0) → P 1 s))))) : Fr xs L T n d 241 0 [some (it v0)] [] s (qi P) := by
  have hn := hK.1
  refine Fr.ildn (by decide +kernel : zi 241 0 = some (.iload_n 0, 1)) rfl ?_
  refine Fr.bipush (by decide +kernel : zi 241 1 = some (.bipush 97, 2)) (by decide) ?_
  refine Fr.if2 (q := 16) (by decide +kernel : zi 241 3 = some (.if_icmp .lt 13, 3)) (by decide +kernel) (fun g9 => ?_) (fun g9 => ?_)
  · have h := h.1 g9
    refine Fr.iconst (by decide +kernel : zi 241 16 = some (.iconst 0, 1)) (by decide) ?_
    exact Fr.retZ (by decide +kernel : zi 241 17 = some (.ireturn, 1)) (by decide +kernel) (by decide) h
  · have h := h.2 g9
    refine Fr.ildn (by decide +kernel : zi 241 6 = some (.iload_n 0, 1)) rfl ?_
    refine Fr.bipush (by decide +kernel : zi 241 7 = some (.bipush 122, 2)) (by decide) ?_
    refine Fr.if2 (q := 16) (by decide +kernel : zi 241 9 = some (.if_icmp .gt 7, 3)) (by decide +kernel) (fun g9 => ?_) (fun g9 => ?_)
    · have h := h.1 g9
      refine Fr.iconst (by decide +kernel : zi 241 16 = some (.iconst 0, 1)) (by decide) ?_
      exact Fr.retZ (by decide +kernel : zi 241 17 = some (.ireturn, 1)) (by decide +kernel) (by decide) h
    · have h := h.2 g9
      refine Fr.iconst (by decide +kernel : zi 241 12 = some (.iconst 1, 1)) (by decide) ?_
      refine Fr.goto (q := 17) (by decide +kernel : zi 241 13 = some (.goto 4, 3)) (by decide +kernel) ?_
      exact Fr.retZ (by decide +kernel : zi 241 17 = some (.ireturn, 1)) (by decide +kernel) (by decide) h
theorem e241 {xs : Nat → Int} {L : Nat} {T : List (Nat × Int × Int)} {n : Nat} {d : Nat} {v0 : Int} {s : Pl} {Q : Option AV → Pl → Prop} (hd : 1 ≤ d) (k : Fr xs L T n (d - 1) 241 0 [some (it v0)] [] s Q) : Ev xs L T n d 241 [it v0] s Q := Ev.of (by decide) _ rfl hd k
-- 242 X2_isDigit
theorem f242_0 {xs : Nat → Int} {L : Nat} {T : List (Nat × Int × Int)} {n : Nat} {d : Nat} {v0 : Int} {s : Pl} {P : Int → Pl → Prop} (hK : KR T n) (h : ((v0 < 48 → P 0 s) ∧ (¬ (v0 < 48) → ((57 < v0 → P 0 s) ∧ (¬ (57 < v0) → P 1 s))))) : Fr xs L T n d 242 0 [some (it v0)] [] s (qi P) := by
  have hn := hK.1
  refine Fr.ildn (by decide +kernel : zi 242 0 = some (.iload_n 0, 1)) rfl ?_
  refine Fr.bipush (by decide +kernel : zi 242 1 = some (.bipush 48, 2)) (by decide) ?_
  refine Fr.if2 (q := 16) (by decide +kernel : zi 242 3 = some (.if_icmp .lt 13, 3)) (by decide +kernel) (fun g9 => ?_) (fun g9 => ?_)
  · have h := h.1 g9
    refine Fr.iconst (by decide +kernel : zi 242 16 = some (.iconst 0, 1)) (by decide) ?_
    exact Fr.retZ (by decide +kernel : zi 242 17 = some (.ireturn, 1)) (by decide +kernel) (by decide) h
  · have h := h.2 g9
    refine Fr.ildn (by decide +kernel : zi 242 6 = some (.iload_n 0, 1)) rfl ?_
    refine Fr.bipush (by decide +kernel : zi 242 7 = some (.bipush 57, 2)) (by decide) ?_
    refine Fr.if2 (q := 16) (by decide +kernel : zi 242 9 = some (.if_icmp .gt 7, 3)) (by decide +kernel) (fun g9 => ?_) (fun g9 => ?_)
    · have h := h.1 g9
      refine Fr.iconst (by decide +kernel : zi 242 16 = some (.iconst 0, 1)) (by decide) ?_
      exact Fr.retZ (by decide +kernel : zi 242 17 = some (.ireturn, 1)) (by decide +kernel) (by decide) h
    · have h := h.2 g9
      refine Fr.iconst (by decide +kernel : zi 242 12 = some (.iconst 1, 1)) (by decide) ?_
      refine Fr.goto (q := 17) (by decide +kernel : zi 242 13 = some (.goto 4, 3)) (by decide +kernel) ?_
      exact Fr.retZ (by decide +kernel : zi 242 17 = some (.ireturn, 1)) (by decide +kernel) (by decide) h
theorem e242 {xs : Nat → Int} {L : Nat} {T : List (Nat × Int × Int)} {n : Nat} {d : Nat} {v0 : Int} {s : Pl} {Q : Option AV → Pl → Prop} (hd : 1 ≤ d) (k : Fr xs L T n (d - 1) 242 0 [some (it v0)] [] s Q) : Ev xs L T n d 242 [it v0] s Q := Ev.of (by decide) _ rfl hd k
-- 243 X2_endOf
theorem f243_0 {xs : Nat → Int} {L : Nat} {T : List (Nat × Int × Int)} {n : Nat} {d : Nat} {v1 : Int} {s : Pl} {P : Int → Pl → Prop} (hK : KR T n) (h : Ev xs L T n d 27 [rf 54, it v1] s (qi fun r2 s1 => Ev xs L T n d 241 [it r2] s1 (qi fun r4 s3 => Ev xs L T n d 27 [rf 54, it v1] s3 (qi fun r6 s5 => Ev xs L T n d 242 [it r6] s5 (qi fun r8 s7 => Fr xs L T n d 243 23 [some (rf 54), some (it v1), some (it r4), some (it r8), some (it (zw (v1 + 1)))] [] s7 (qi P)))))) : Fr xs L T n d 243 0 [some (rf 54), some (it v1), none, none, none] [] s (qi P) := by
  have hn := hK.1
  refine Fr.aldn (c := 54) (by decide +kernel : zi 243 0 = some (.aload_n 0, 1)) rfl ⟨by omega, by omega⟩ ?_
  refine Fr.ildn (by decide +kernel : zi 243 1 = some (.iload_n 1, 1)) rfl ?_
  refine Fr.callI (y2 := 27) (na := 2) (as := [rf 54, it v1]) (rest := []) (by decide +kernel : zi 243 2 = some (.invokevirtual 92, 3)) rfl (by decide +kernel) (by decide +kernel) rfl rfl (zok_V rfl (by decide) (by decide +kernel) (by decide +kernel) (zrecv_c (c := 53) (by omega) (by decide +kernel)) rfl (Nat.le_of_ble_eq_true rfl)) h (fun r2 s1 h => ?_)
  refine Fr.callI (y2 := 241) (na := 1) (as := [it r2]) (rest := []) (by decide +kernel : zi 243 5 = some (.invokestatic 108, 3)) rfl (by decide +kernel) (by decide +kernel) rfl rfl (zok_S rfl (by decide) (by decide +kernel) rfl (Nat.le_of_ble_eq_true rfl)) h (fun r4 s3 h => ?_)
  refine Fr.istn (lv2 := [some (rf 54), some (it v1), some (it r4), none, none]) (by decide +kernel : zi 243 8 = some (.istore_n 2, 1)) (Nat.le_of_ble_eq_true rfl) rfl ?_
  refine Fr.aldn (c := 54) (by decide +kernel : zi 243 9 = some (.aload_n 0, 1)) rfl ⟨by omega, by omega⟩ ?_
  refine Fr.ildn (by decide +kernel : zi 243 10 = some (.iload_n 1, 1)) rfl ?_
  refine Fr.callI (y2 := 27) (na := 2) (as := [rf 54, it v1]) (rest := []) (by decide +kernel : zi 243 11 = some (.invokevirtual 92, 3)) rfl (by decide +kernel) (by decide +kernel) rfl rfl (zok_V rfl (by decide) (by decide +kernel) (by decide +kernel) (zrecv_c (c := 53) (by omega) (by decide +kernel)) rfl (Nat.le_of_ble_eq_true rfl)) h (fun r6 s5 h => ?_)
  refine Fr.callI (y2 := 242) (na := 1) (as := [it r6]) (rest := []) (by decide +kernel : zi 243 14 = some (.invokestatic 111, 3)) rfl (by decide +kernel) (by decide +kernel) rfl rfl (zok_S rfl (by decide) (by decide +kernel) rfl (Nat.le_of_ble_eq_true rfl)) h (fun r8 s7 h => ?_)
  refine Fr.istn (lv2 := [some (rf 54), some (it v1), some (it r4), some (it r8), none]) (by decide +kernel : zi 243 17 = some (.istore_n 3, 1)) (Nat.le_of_ble_eq_true rfl) rfl ?_
  refine Fr.ildn (by decide +kernel : zi 243 18 = some (.iload_n 1, 1)) rfl ?_
  refine Fr.iconst (by decide +kernel : zi 243 19 = some (.iconst 1, 1)) (by decide) ?_
  refine Fr.iadd (by decide +kernel : zi 243 20 = some (.iadd, 1)) ?_
  refine Fr.ist (lv2 := [some (rf 54), some (it v1), some (it r4), some (it r8), some (it (zw (v1 + 1)))]) (by decide +kernel : zi 243 21 = some (.istore 4, 2)) (Nat.le_of_ble_eq_true rfl) rfl ?_
  exact h
theorem e243 {xs : Nat → Int} {L : Nat} {T : List (Nat × Int × Int)} {n : Nat} {d : Nat} {v1 : Int} {s : Pl} {Q : Option AV → Pl → Prop} (hd : 1 ≤ d) (k : Fr xs L T n (d - 1) 243 0 [some (rf 54), some (it v1), none, none, none] [] s Q) : Ev xs L T n d 243 [rf 54, it v1] s Q := Ev.of (by decide) _ rfl hd k
theorem f243_23 {xs : Nat → Int} {L : Nat} {T : List (Nat × Int × Int)} {n : Nat} {d : Nat} {v1 : Int} {v2 : Int} {v3 : Int} {v4 : Int} {s : Pl} {P : Int → Pl → Prop} (hK : KR T n) (h : ((s 53 1 ≤ v4 → P v4 s) ∧ (¬ (s 53 1 ≤ v4) → ((v2 = 0 → Fr xs L T n d 243 48 [some (rf 54), some (it v1), some (it v2), some (it v3), some (it v4)] [] s (qi P)) ∧ (¬ (v2 = 0) → Ev xs L T n d 27 [rf 54, it v4] s (qi fun r2 s1 => Ev xs L T n d 241 [it r2] s1 (qi fun r4 s3 => ((¬ r4 = 0 → Fr xs L T n d 243 64 [some (rf 54), some (it v1), some (it v2), some (it v3), some (it v4)] [] s3 (qi P)) ∧ (¬ (¬ r4 = 0) → Fr xs L T n d 243 48 [some (rf 54), some (it v1), some (it v2), some (it v3), some (it v4)] [] s3 (qi P)))))))))) : Fr xs L T n d 243 23 [some (rf 54), some (it v1), some (it v2), some (it v3), some (it v4)] [] s (qi P) := by
  have hn := hK.1
  refine Fr.ild (by decide +kernel : zi 243 23 = some (.iload 4, 2)) rfl ?_
  refine Fr.aldn (c := 54) (by decide +kernel : zi 243 25 = some (.aload_n 0, 1)) rfl ⟨by omega, by omega⟩ ?_
  refine Fr.gI (c := 53) (ci := 2) (k := 1) (t := 0) 1 (by decide +kernel : zi 243 26 = some (.getfield 25, 3)) (by decide +kernel) (by decide +kernel) (by decide +kernel) (by omega) rfl ?_
  refine Fr.if2 (q := 70) (by decide +kernel : zi 243 29 = some (.if_icmp .ge 41, 3)) (by decide +kernel) (fun g9 => ?_) (fun g9 => ?_)
  · have h := h.1 g9
    refine Fr.ild (by decide +kernel : zi 243 70 = some (.iload 4, 2)) rfl ?_
    exact Fr.retI (by decide +kernel : zi 243 72 = some (.ireturn, 1)) (by decide +kernel) h
  · have h := h.2 g9
    refine Fr.ildn (by decide +kernel : zi 243 32 = some (.iload_n 2, 1)) rfl ?_
    refine Fr.if0 (q := 48) (by decide +kernel : zi 243 33 = some (.ifCond .eq 15, 3)) (by decide +kernel) (fun g9 => ?_) (fun g9 => ?_)
    · have h := h.1 g9
      exact h
    · have h := h.2 g9
      refine Fr.aldn (c := 54) (by decide +kernel : zi 243 36 = some (.aload_n 0, 1)) rfl ⟨by omega, by omega⟩ ?_
      refine Fr.ild (by decide +kernel : zi 243 37 = some (.iload 4, 2)) rfl ?_
      refine Fr.callI (y2 := 27) (na := 2) (as := [rf 54, it v4]) (rest := []) (by decide +kernel : zi 243 39 = some (.invokevirtual 92, 3)) rfl (by decide +kernel) (by decide +kernel) rfl rfl (zok_V rfl (by decide) (by decide +kernel) (by decide +kernel) (zrecv_c (c := 53) (by omega) (by decide +kernel)) rfl (Nat.le_of_ble_eq_true rfl)) h (fun r2 s1 h => ?_)
      refine Fr.callI (y2 := 241) (na := 1) (as := [it r2]) (rest := []) (by decide +kernel : zi 243 42 = some (.invokestatic 108, 3)) rfl (by decide +kernel) (by decide +kernel) rfl rfl (zok_S rfl (by decide) (by decide +kernel) rfl (Nat.le_of_ble_eq_true rfl)) h (fun r4 s3 h => ?_)
      refine Fr.if0 (q := 64) (by decide +kernel : zi 243 45 = some (.ifCond .ne 19, 3)) (by decide +kernel) (fun g9 => ?_) (fun g9 => ?_)
      · have h := h.1 g9
        exact h
      · have h := h.2 g9
        exact h
theorem f243_48 {xs : Nat → Int} {L : Nat} {T : List (Nat × Int × Int)} {n : Nat} {d : Nat} {v1 : Int} {v2 : Int} {v3 : Int} {v4 : Int} {s : Pl} {P : Int → Pl → Prop} (hK : KR T n) (h : ((v3 = 0 → P v4 s) ∧ (¬ (v3 = 0) → Ev xs L T n d 27 [rf 54, it v4] s (qi fun r2 s1 => Ev xs L T n d 242 [it r2] s1 (qi fun r4 s3 => ((r4 = 0 → P v4 s3) ∧ (¬ (r4 = 0) → Fr xs L T n d 243 64 [some (rf 54), some (it v1), some (it v2), some (it v3), some (it v4)] [] s3 (qi P)))))))) : Fr xs L T n d 243 48 [some (rf 54), some (it v1), some (it v2), some (it v3), some (it v4)] [] s (qi P) := by
  have hn := hK.1
  refine Fr.ildn (by decide +kernel : zi 243 48 = some (.iload_n 3, 1)) rfl ?_
  refine Fr.if0 (q := 70) (by decide +kernel : zi 243 49 = some (.ifCond .eq 21, 3)) (by decide +kernel) (fun g9 => ?_) (fun g9 => ?_)
  · have h := h.1 g9
    refine Fr.ild (by decide +kernel : zi 243 70 = some (.iload 4, 2)) rfl ?_
    exact Fr.retI (by decide +kernel : zi 243 72 = some (.ireturn, 1)) (by decide +kernel) h
  · have h := h.2 g9
    refine Fr.aldn (c := 54) (by decide +kernel : zi 243 52 = some (.aload_n 0, 1)) rfl ⟨by omega, by omega⟩ ?_
    refine Fr.ild (by decide +kernel : zi 243 53 = some (.iload 4, 2)) rfl ?_
    refine Fr.callI (y2 := 27) (na := 2) (as := [rf 54, it v4]) (rest := []) (by decide +kernel : zi 243 55 = some (.invokevirtual 92, 3)) rfl (by decide +kernel) (by decide +kernel) rfl rfl (zok_V rfl (by decide) (by decide +kernel) (by decide +kernel) (zrecv_c (c := 53) (by omega) (by decide +kernel)) rfl (Nat.le_of_ble_eq_true rfl)) h (fun r2 s1 h => ?_)
    refine Fr.callI (y2 := 242) (na := 1) (as := [it r2]) (rest := []) (by decide +kernel : zi 243 58 = some (.invokestatic 111, 3)) rfl (by decide +kernel) (by decide +kernel) rfl rfl (zok_S rfl (by decide) (by decide +kernel) rfl (Nat.le_of_ble_eq_true rfl)) h (fun r4 s3 h => ?_)
    refine Fr.if0 (q := 70) (by decide +kernel : zi 243 61 = some (.ifCond .eq 9, 3)) (by decide +kernel) (fun g9 => ?_) (fun g9 => ?_)
    · have h := h.1 g9
      refine Fr.ild (by decide +kernel : zi 243 70 = some (.iload 4, 2)) rfl ?_
      exact Fr.retI (by decide +kernel : zi 243 72 = some (.ireturn, 1)) (by decide +kernel) h
    · have h := h.2 g9
      exact h
theorem f243_64 {xs : Nat → Int} {L : Nat} {T : List (Nat × Int × Int)} {n : Nat} {d : Nat} {v1 : Int} {v2 : Int} {v3 : Int} {v4 : Int} {s : Pl} {P : Int → Pl → Prop} (hK : KR T n) (h : Fr xs L T n d 243 23 [some (rf 54), some (it v1), some (it v2), some (it v3), some (it (zw (v4 + 1)))] [] s (qi P)) : Fr xs L T n d 243 64 [some (rf 54), some (it v1), some (it v2), some (it v3), some (it v4)] [] s (qi P) := by
  have hn := hK.1
  refine Fr.iinc (lv2 := [some (rf 54), some (it v1), some (it v2), some (it v3), some (it (zw (v4 + 1)))]) (by decide +kernel : zi 243 64 = some (.iinc 4 1, 3)) (Nat.le_of_ble_eq_true rfl) rfl rfl ?_
  refine Fr.goto (q := 23) (by decide +kernel : zi 243 67 = some (.goto (-44), 3)) (by decide +kernel) ?_
  exact h
-- 244 X2_tokenFrom
theorem f244_0 {xs : Nat → Int} {L : Nat} {T : List (Nat × Int × Int)} {n : Nat} {d : Nat} {v1 : Int} {v2 : Int} {s : Pl} {P : Int → Pl → Prop} (hK : KR T n) (h : Ev xs L T n d 27 [rf 54, it v1] s (qi fun r2 s1 => Ev xs L T n d 241 [it r2] s1 (qi fun r4 s3 => ((r4 = 0 → Ev xs L T n d 242 [it r2] s3 (qi fun r6 s5 => ((r6 = 0 → ((r2 = 40 → Fr xs L T n d 244 82 [some (rf 54), some (it v1), some (it v2), some (it r2), none] [] s5 (qi P)) ∧ (¬ (r2 = 40) → ((r2 = 41 → Fr xs L T n d 244 82 [some (rf 54), some (it v1), some (it v2), some (it r2), none] [] s5 (qi P)) ∧ (¬ (r2 = 41) → ((r2 = 59 → Fr xs L T n d 244 82 [some (rf 54), some (it v1), some (it v2), some (it r2), none] [] s5 (qi P)) ∧ (¬ (r2 = 59) → ((r2 = 43 → Fr xs L T n d 244 82 [some (rf 54), some (it v1), some (it v2), some (it r2), none] [] s5 (qi P)) ∧ (¬ (r2 = 43) → ((r2 = 45 → Fr xs L T n d 244 82 [some (rf 54), some (it v1), some (it v2), some (it r2), none] [] s5 (qi P)) ∧ (¬ (r2 = 45) → ((r2 = 42 → Fr xs L T n d 244 82 [some (rf 54), some (it v1), some (it v2), some (it r2), none] [] s5 (qi P)) ∧ (¬ (r2 = 42) → ((r2 = 60 → Fr xs L T n d 244 82 [some (rf 54), some (it v1), some (it v2), some (it r2), none] [] s5 (qi P)) ∧ (¬ (r2 = 60) → ((¬ r2 = 61 → Fr xs L T n d 244 87 [some (rf 54), some (it v1), some (it v2), some (it r2), none] [it 0] s5 (qi P)) ∧ (¬ (¬ r2 = 61) → Fr xs L T n d 244 82 [some (rf 54), some (it v1), some (it v2), some (it r2), none] [] s5 (qi P)))))))))))))))))) ∧ (¬ (r6 = 0) → Ev xs L T n d 30 [rf 54, it v1, it v2] s5 (qi fun r8 s7 => P r8 s7))))) ∧ (¬ (r4 = 0) → Ev xs L T n d 31 [rf 54, it v1, it v2] s3 (qi fun r10 s9 => P r10 s9)))))) : Fr xs L T n d 244 0 [some (rf 54), some (it v1), some (it v2), none, none] [] s (qi P) := by
  have hn := hK.1
  refine Fr.aldn (c := 54) (by decide +kernel : zi 244 0 = some (.aload_n 0, 1)) rfl ⟨by omega, by omega⟩ ?_
  refine Fr.ildn (by decide +kernel : zi 244 1 = some (.iload_n 1, 1)) rfl ?_
  refine Fr.callI (y2 := 27) (na := 2) (as := [rf 54, it v1]) (rest := []) (by decide +kernel : zi 244 2 = some (.invokevirtual 92, 3)) rfl (by decide +kernel) (by decide +kernel) rfl rfl (zok_V rfl (by decide) (by decide +kernel) (by decide +kernel) (zrecv_c (c := 53) (by omega) (by decide +kernel)) rfl (Nat.le_of_ble_eq_true rfl)) h (fun r2 s1 h => ?_)
  refine Fr.istn (lv2 := [some (rf 54), some (it v1), some (it v2), some (it r2), none]) (by decide +kernel : zi 244 5 = some (.istore_n 3, 1)) (Nat.le_of_ble_eq_true rfl) rfl ?_
  refine Fr.ildn (by decide +kernel : zi 244 6 = some (.iload_n 3, 1)) rfl ?_
  refine Fr.callI (y2 := 241) (na := 1) (as := [it r2]) (rest := []) (by decide +kernel : zi 244 7 = some (.invokestatic 108, 3)) rfl (by decide +kernel) (by decide +kernel) rfl rfl (zok_S rfl (by decide) (by decide +kernel) rfl (Nat.le_of_ble_eq_true rfl)) h (fun r4 s3 h => ?_)
  refine Fr.if0 (q := 20) (by decide +kernel : zi 244 10 = some (.ifCond .eq 10, 3)) (by decide +kernel) (fun g9 => ?_) (fun g9 => ?_)
  · have h := h.1 g9
    refine Fr.ildn (by decide +kernel : zi 244 20 = some (.iload_n 3, 1)) rfl ?_
    refine Fr.callI (y2 := 242) (na := 1) (as := [it r2]) (rest := []) (by decide +kernel : zi 244 21 = some (.invokestatic 111, 3)) rfl (by decide +kernel) (by decide +kernel) rfl rfl (zok_S rfl (by decide) (by decide +kernel) rfl (Nat.le_of_ble_eq_true rfl)) h (fun r6 s5 h => ?_)
    refine Fr.if0 (q := 34) (by decide +kernel : zi 244 24 = some (.ifCond .eq 10, 3)) (by decide +kernel) (fun g9 => ?_) (fun g9 => ?_)
    · have h := h.1 g9
      refine Fr.ildn (by decide +kernel : zi 244 34 = some (.iload_n 3, 1)) rfl ?_
      refine Fr.bipush (by decide +kernel : zi 244 35 = some (.bipush 40, 2)) (by decide) ?_
      refine Fr.if2 (q := 82) (by decide +kernel : zi 244 37 = some (.if_icmp .eq 45, 3)) (by decide +kernel) (fun g9 => ?_) (fun g9 => ?_)
      · have h := h.1 g9
        exact h
      · have h := h.2 g9
        refine Fr.ildn (by decide +kernel : zi 244 40 = some (.iload_n 3, 1)) rfl ?_
        refine Fr.bipush (by decide +kernel : zi 244 41 = some (.bipush 41, 2)) (by decide) ?_
        refine Fr.if2 (q := 82) (by decide +kernel : zi 244 43 = some (.if_icmp .eq 39, 3)) (by decide +kernel) (fun g9 => ?_) (fun g9 => ?_)
        · have h := h.1 g9
          exact h
        · have h := h.2 g9
          refine Fr.ildn (by decide +kernel : zi 244 46 = some (.iload_n 3, 1)) rfl ?_
          refine Fr.bipush (by decide +kernel : zi 244 47 = some (.bipush 59, 2)) (by decide) ?_
          refine Fr.if2 (q := 82) (by decide +kernel : zi 244 49 = some (.if_icmp .eq 33, 3)) (by decide +kernel) (fun g9 => ?_) (fun g9 => ?_)
          · have h := h.1 g9
            exact h
          · have h := h.2 g9
            refine Fr.ildn (by decide +kernel : zi 244 52 = some (.iload_n 3, 1)) rfl ?_
            refine Fr.bipush (by decide +kernel : zi 244 53 = some (.bipush 43, 2)) (by decide) ?_
            refine Fr.if2 (q := 82) (by decide +kernel : zi 244 55 = some (.if_icmp .eq 27, 3)) (by decide +kernel) (fun g9 => ?_) (fun g9 => ?_)
            · have h := h.1 g9
              exact h
            · have h := h.2 g9
              refine Fr.ildn (by decide +kernel : zi 244 58 = some (.iload_n 3, 1)) rfl ?_
              refine Fr.bipush (by decide +kernel : zi 244 59 = some (.bipush 45, 2)) (by decide) ?_
              refine Fr.if2 (q := 82) (by decide +kernel : zi 244 61 = some (.if_icmp .eq 21, 3)) (by decide +kernel) (fun g9 => ?_) (fun g9 => ?_)
              · have h := h.1 g9
                exact h
              · have h := h.2 g9
                refine Fr.ildn (by decide +kernel : zi 244 64 = some (.iload_n 3, 1)) rfl ?_
                refine Fr.bipush (by decide +kernel : zi 244 65 = some (.bipush 42, 2)) (by decide) ?_
                refine Fr.if2 (q := 82) (by decide +kernel : zi 244 67 = some (.if_icmp .eq 15, 3)) (by decide +kernel) (fun g9 => ?_) (fun g9 => ?_)
                · have h := h.1 g9
                  exact h
                · have h := h.2 g9
                  refine Fr.ildn (by decide +kernel : zi 244 70 = some (.iload_n 3, 1)) rfl ?_
                  refine Fr.bipush (by decide +kernel : zi 244 71 = some (.bipush 60, 2)) (by decide) ?_
                  refine Fr.if2 (q := 82) (by decide +kernel : zi 244 73 = some (.if_icmp .eq 9, 3)) (by decide +kernel) (fun g9 => ?_) (fun g9 => ?_)
                  · have h := h.1 g9
                    exact h
                  · have h := h.2 g9
                    refine Fr.ildn (by decide +kernel : zi 244 76 = some (.iload_n 3, 1)) rfl ?_
                    refine Fr.bipush (by decide +kernel : zi 244 77 = some (.bipush 61, 2)) (by decide) ?_
                    refine Fr.if2 (q := 86) (by decide +kernel : zi 244 79 = some (.if_icmp .ne 7, 3)) (by decide +kernel) (fun g9 => ?_) (fun g9 => ?_)
                    · have h := h.1 g9
                      refine Fr.iconst (by decide +kernel : zi 244 86 = some (.iconst 0, 1)) (by decide) ?_
                      exact h
                    · have h := h.2 g9
                      exact h
    · have h := h.2 g9
      refine Fr.aldn (c := 54) (by decide +kernel : zi 244 27 = some (.aload_n 0, 1)) rfl ⟨by omega, by omega⟩ ?_
      refine Fr.ildn (by decide +kernel : zi 244 28 = some (.iload_n 1, 1)) rfl ?_
      refine Fr.ildn (by decide +kernel : zi 244 29 = some (.iload_n 2, 1)) rfl ?_
      refine Fr.callI (y2 := 30) (na := 3) (as := [rf 54, it v1, it v2]) (rest := []) (by decide +kernel : zi 244 30 = some (.invokevirtual 117, 3)) rfl (by decide +kernel) (by decide +kernel) rfl rfl (zok_V rfl (by decide) (by decide +kernel) (by decide +kernel) (zrecv_c (c := 53) (by omega) (by decide +kernel)) rfl (Nat.le_of_ble_eq_true rfl)) h (fun r8 s7 h => ?_)
      exact Fr.retI (by decide +kernel : zi 244 33 = some (.ireturn, 1)) (by decide +kernel) h
  · have h := h.2 g9
    refine Fr.aldn (c := 54) (by decide +kernel : zi 244 13 = some (.aload_n 0, 1)) rfl ⟨by omega, by omega⟩ ?_
    refine Fr.ildn (by decide +kernel : zi 244 14 = some (.iload_n 1, 1)) rfl ?_
    refine Fr.ildn (by decide +kernel : zi 244 15 = some (.iload_n 2, 1)) rfl ?_
    refine Fr.callI (y2 := 31) (na := 3) (as := [rf 54, it v1, it v2]) (rest := []) (by decide +kernel : zi 244 16 = some (.invokevirtual 114, 3)) rfl (by decide +kernel) (by decide +kernel) rfl rfl (zok_V rfl (by decide) (by decide +kernel) (by decide +kernel) (zrecv_c (c := 53) (by omega) (by decide +kernel)) rfl (Nat.le_of_ble_eq_true rfl)) h (fun r10 s9 h => ?_)
    exact Fr.retI (by decide +kernel : zi 244 19 = some (.ireturn, 1)) (by decide +kernel) h
theorem e244 {xs : Nat → Int} {L : Nat} {T : List (Nat × Int × Int)} {n : Nat} {d : Nat} {v1 : Int} {v2 : Int} {s : Pl} {Q : Option AV → Pl → Prop} (hd : 1 ≤ d) (k : Fr xs L T n (d - 1) 244 0 [some (rf 54), some (it v1), some (it v2), none, none] [] s Q) : Ev xs L T n d 244 [rf 54, it v1, it v2] s Q := Ev.of (by decide) _ rfl hd k
theorem f244_82 {xs : Nat → Int} {L : Nat} {T : List (Nat × Int × Int)} {n : Nat} {d : Nat} {v1 : Int} {v2 : Int} {v3 : Int} {s : Pl} {P : Int → Pl → Prop} (hK : KR T n) (h : Fr xs L T n d 244 87 [some (rf 54), some (it v1), some (it v2), some (it v3), none] [it 1] s (qi P)) : Fr xs L T n d 244 82 [some (rf 54), some (it v1), some (it v2), some (it v3), none] [] s (qi P) := by
  have hn := hK.1
  refine Fr.iconst (by decide +kernel : zi 244 82 = some (.iconst 1, 1)) (by decide) ?_
  refine Fr.goto (q := 87) (by decide +kernel : zi 244 83 = some (.goto 4, 3)) (by decide +kernel) ?_
  exact h
theorem f244_87 {xs : Nat → Int} {L : Nat} {T : List (Nat × Int × Int)} {n : Nat} {d : Nat} {v1 : Int} {v2 : Int} {v3 : Int} {vs0 : Int} {s : Pl} {P : Int → Pl → Prop} (hK : KR T n) (h : ((vs0 = 0 → P 301 s) ∧ (¬ (vs0 = 0) → P v3 s))) : Fr xs L T n d 244 87 [some (rf 54), some (it v1), some (it v2), some (it v3), none] [it vs0] s (qi P) := by
  have hn := hK.1
  refine Fr.ist (lv2 := [some (rf 54), some (it v1), some (it v2), some (it v3), some (it vs0)]) (by decide +kernel : zi 244 87 = some (.istore 4, 2)) (Nat.le_of_ble_eq_true rfl) rfl ?_
  refine Fr.ild (by decide +kernel : zi 244 89 = some (.iload 4, 2)) rfl ?_
  refine Fr.if0 (q := 98) (by decide +kernel : zi 244 91 = some (.ifCond .eq 7, 3)) (by decide +kernel) (fun g9 => ?_) (fun g9 => ?_)
  · have h := h.1 g9
    refine Fr.sipush (by decide +kernel : zi 244 98 = some (.sipush 301, 3)) (by decide) ?_
    exact Fr.retI (by decide +kernel : zi 244 101 = some (.ireturn, 1)) (by decide +kernel) h
  · have h := h.2 g9
    refine Fr.ildn (by decide +kernel : zi 244 94 = some (.iload_n 3, 1)) rfl ?_
    refine Fr.goto (q := 101) (by decide +kernel : zi 244 95 = some (.goto 6, 3)) (by decide +kernel) ?_
    exact Fr.retI (by decide +kernel : zi 244 101 = some (.ireturn, 1)) (by decide +kernel) h
