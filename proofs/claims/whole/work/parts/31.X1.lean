-- 10 X1_begin
theorem f10_0 {xs : Nat → Int} {L : Nat} {T : List (Nat × Int × Int)} {n : Nat} {d : Nat} {t0 : Nat} {s : Pl} {P : Pl → Prop} (hK : KR T n) (ht0 : t0 < 6) (h : P (zup s (21 + 4 * t0) 3 0)) : Fr xs L T n d 10 0 [some (rf (21 + 4 * t0 + 1))] [] s (qv P) := by
  have hn := hK.1
  refine Fr.aldn (c := (21 + 4 * t0 + 1)) (by decide +kernel : zi 10 0 = some (.aload_n 0, 1)) rfl ⟨by omega, by omega⟩ ?_
  refine Fr.iconst (by decide +kernel : zi 10 1 = some (.iconst 0, 1)) (by decide) ?_
  refine Fr.pI (c := (21 + 4 * t0)) (ci := 1) (k := 3) 3 (by decide +kernel : zi 10 2 = some (.putfield 21, 3)) (by decide +kernel) (by decide +kernel) (by rw [(zlaw_sh _ ht0).1]) (by omega) rfl ?_
  exact Fr.retV (by decide +kernel : zi 10 5 = some (.return_, 1)) (by decide +kernel) h
theorem e10 {xs : Nat → Int} {L : Nat} {T : List (Nat × Int × Int)} {n : Nat} {d : Nat} {t0 : Nat} {s : Pl} {Q : Option AV → Pl → Prop} (hd : 1 ≤ d) (k : Fr xs L T n (d - 1) 10 0 [some (rf (21 + 4 * t0 + 1))] [] s Q) : Ev xs L T n d 10 [rf (21 + 4 * t0 + 1)] s Q := Ev.of (by decide) _ rfl hd k
-- 11 X1_add
theorem f11_0 {xs : Nat → Int} {L : Nat} {T : List (Nat × Int × Int)} {n : Nat} {d : Nat} {t0 : Nat} {v1 : Int} {s : Pl} {P : Pl → Prop} (hK : KR T n) (ht0 : t0 < 6) (h : ((s (21 + 4 * t0) 3 < 0 → P s) ∧ (¬ (s (21 + 4 * t0) 3 < 0) → ((160 ≤ s (21 + 4 * t0) 3 → P s) ∧ (¬ (160 ≤ s (21 + 4 * t0) 3) → (0 ≤ s (21 + 4 * t0) 3 ∧ s (21 + 4 * t0) 3 < 160) ∧ P (zup (zup s (22 + 4 * t0) (s (21 + 4 * t0) 3) v1) (21 + 4 * t0) 3 (zw (((zup s (22 + 4 * t0) (s (21 + 4 * t0) 3) v1) (21 + 4 * t0) 3) + 1)))))))) : Fr xs L T n d 11 0 [some (rf (21 + 4 * t0 + 1)), some (it v1)] [] s (qv P) := by
  have hn := hK.1
  refine Fr.aldn (c := (21 + 4 * t0 + 1)) (by decide +kernel : zi 11 0 = some (.aload_n 0, 1)) rfl ⟨by omega, by omega⟩ ?_
  refine Fr.gI (c := (21 + 4 * t0)) (ci := 1) (k := 3) (t := 0) 3 (by decide +kernel : zi 11 1 = some (.getfield 21, 3)) (by decide +kernel) (by decide +kernel) (by rw [(zlaw_sh _ ht0).1]) (by omega) rfl ?_
  refine Fr.if0 (q := 39) (by decide +kernel : zi 11 4 = some (.ifCond .lt 35, 3)) (by decide +kernel) (fun g9 => ?_) (fun g9 => ?_)
  · have h := h.1 g9
    exact Fr.retV (by decide +kernel : zi 11 39 = some (.return_, 1)) (by decide +kernel) h
  · have h := h.2 g9
    refine Fr.aldn (c := (21 + 4 * t0 + 1)) (by decide +kernel : zi 11 7 = some (.aload_n 0, 1)) rfl ⟨by omega, by omega⟩ ?_
    refine Fr.gI (c := (21 + 4 * t0)) (ci := 1) (k := 3) (t := 0) 3 (by decide +kernel : zi 11 8 = some (.getfield 21, 3)) (by decide +kernel) (by decide +kernel) (by rw [(zlaw_sh _ ht0).1]) (by omega) rfl ?_
    refine Fr.aldn (c := (21 + 4 * t0 + 1)) (by decide +kernel : zi 11 11 = some (.aload_n 0, 1)) rfl ⟨by omega, by omega⟩ ?_
    refine Fr.gR (c := (21 + 4 * t0)) (c2 := (22 + 4 * t0 + 1)) (ci := 1) (k := 0) 0 (by decide +kernel : zi 11 12 = some (.getfield 9, 3)) (by decide +kernel) (by decide +kernel) (by rw [(zlaw_sh _ ht0).1]) (by omega) rfl (fun q => q _ (hK.2.1 _ (zlaw_T0 _ ht0))) ?_
    refine Fr.alen (c := (22 + 4 * t0)) (N := 160) (K := 20) (by decide +kernel : zi 11 15 = some (.arraylength, 1)) (zlaw_sh _ ht0).2.1 (by decide) (by omega) ?_
    refine Fr.if2 (q := 39) (by decide +kernel : zi 11 16 = some (.if_icmp .ge 23, 3)) (by decide +kernel) (fun g9 => ?_) (fun g9 => ?_)
    · have h := h.1 g9
      exact Fr.retV (by decide +kernel : zi 11 39 = some (.return_, 1)) (by decide +kernel) h
    · have h := h.2 g9
      refine Fr.aldn (c := (21 + 4 * t0 + 1)) (by decide +kernel : zi 11 19 = some (.aload_n 0, 1)) rfl ⟨by omega, by omega⟩ ?_
      refine Fr.gR (c := (21 + 4 * t0)) (c2 := (22 + 4 * t0 + 1)) (ci := 1) (k := 0) 0 (by decide +kernel : zi 11 20 = some (.getfield 9, 3)) (by decide +kernel) (by decide +kernel) (by rw [(zlaw_sh _ ht0).1]) (by omega) rfl (fun q => q _ (hK.2.1 _ (zlaw_T0 _ ht0))) ?_
      refine Fr.aldn (c := (21 + 4 * t0 + 1)) (by decide +kernel : zi 11 23 = some (.aload_n 0, 1)) rfl ⟨by omega, by omega⟩ ?_
      refine Fr.gI (c := (21 + 4 * t0)) (ci := 1) (k := 3) (t := 0) 3 (by decide +kernel : zi 11 24 = some (.getfield 21, 3)) (by decide +kernel) (by decide +kernel) (by rw [(zlaw_sh _ ht0).1]) (by omega) rfl ?_
      refine Fr.ildn (by decide +kernel : zi 11 27 = some (.iload_n 1, 1)) rfl ?_
      obtain ⟨⟨g0, g1⟩, h⟩ := h
      refine Fr.iast (c := (22 + 4 * t0)) (N := 160) (by decide +kernel : zi 11 28 = some (.iastore, 1)) (zlaw_sh _ ht0).2.1 (by omega) g0 g1 ?_
      refine Fr.aldn (c := (21 + 4 * t0 + 1)) (by decide +kernel : zi 11 29 = some (.aload_n 0, 1)) rfl ⟨by omega, by omega⟩ ?_
      refine Fr.dup (by decide +kernel : zi 11 30 = some (.dup, 1)) rfl ?_
      refine Fr.gI (c := (21 + 4 * t0)) (ci := 1) (k := 3) (t := 0) 3 (by decide +kernel : zi 11 31 = some (.getfield 21, 3)) (by decide +kernel) (by decide +kernel) (by rw [(zlaw_sh _ ht0).1]) (by omega) rfl ?_
      refine Fr.iconst (by decide +kernel : zi 11 34 = some (.iconst 1, 1)) (by decide) ?_
      refine Fr.iadd (by decide +kernel : zi 11 35 = some (.iadd, 1)) ?_
      refine Fr.pI (c := (21 + 4 * t0)) (ci := 1) (k := 3) 3 (by decide +kernel : zi 11 36 = some (.putfield 21, 3)) (by decide +kernel) (by decide +kernel) (by rw [(zlaw_sh _ ht0).1]) (by omega) rfl ?_
      exact Fr.retV (by decide +kernel : zi 11 39 = some (.return_, 1)) (by decide +kernel) h
theorem e11 {xs : Nat → Int} {L : Nat} {T : List (Nat × Int × Int)} {n : Nat} {d : Nat} {t0 : Nat} {v1 : Int} {s : Pl} {Q : Option AV → Pl → Prop} (hd : 1 ≤ d) (k : Fr xs L T n (d - 1) 11 0 [some (rf (21 + 4 * t0 + 1)), some (it v1)] [] s Q) : Ev xs L T n d 11 [rf (21 + 4 * t0 + 1), it v1] s Q := Ev.of (by decide) _ rfl hd k
-- 12 X1_end
theorem f12_0 {xs : Nat → Int} {L : Nat} {T : List (Nat × Int × Int)} {n : Nat} {d : Nat} {t0 : Nat} {v1 : Int} {s : Pl} {P : Pl → Prop} (hK : KR T n) (ht0 : t0 < 6) (h : ((v1 < 0 → P s) ∧ (¬ (v1 < 0) → ((3 ≤ v1 → P s) ∧ (¬ (3 ≤ v1) → (0 ≤ v1 ∧ v1 < 3) ∧ P (zup s (23 + 4 * t0) v1 (s (21 + 4 * t0) 3))))))) : Fr xs L T n d 12 0 [some (rf (21 + 4 * t0 + 1)), some (it v1)] [] s (qv P) := by
  have hn := hK.1
  refine Fr.ildn (by decide +kernel : zi 12 0 = some (.iload_n 1, 1)) rfl ?_
  refine Fr.if0 (q := 23) (by decide +kernel : zi 12 1 = some (.ifCond .lt 22, 3)) (by decide +kernel) (fun g9 => ?_) (fun g9 => ?_)
  · have h := h.1 g9
    exact Fr.retV (by decide +kernel : zi 12 23 = some (.return_, 1)) (by decide +kernel) h
  · have h := h.2 g9
    refine Fr.ildn (by decide +kernel : zi 12 4 = some (.iload_n 1, 1)) rfl ?_
    refine Fr.aldn (c := (21 + 4 * t0 + 1)) (by decide +kernel : zi 12 5 = some (.aload_n 0, 1)) rfl ⟨by omega, by omega⟩ ?_
    refine Fr.gR (c := (21 + 4 * t0)) (c2 := (23 + 4 * t0 + 1)) (ci := 1) (k := 1) 1 (by decide +kernel : zi 12 6 = some (.getfield 15, 3)) (by decide +kernel) (by decide +kernel) (by rw [(zlaw_sh _ ht0).1]) (by omega) rfl (fun q => q _ (hK.2.1 _ (zlaw_T1 _ ht0))) ?_
    refine Fr.alen (c := (23 + 4 * t0)) (N := 3) (K := 20) (by decide +kernel : zi 12 9 = some (.arraylength, 1)) (zlaw_sh _ ht0).2.2.1 (by decide) (by omega) ?_
    refine Fr.if2 (q := 23) (by decide +kernel : zi 12 10 = some (.if_icmp .ge 13, 3)) (by decide +kernel) (fun g9 => ?_) (fun g9 => ?_)
    · have h := h.1 g9
      exact Fr.retV (by decide +kernel : zi 12 23 = some (.return_, 1)) (by decide +kernel) h
    · have h := h.2 g9
      refine Fr.aldn (c := (21 + 4 * t0 + 1)) (by decide +kernel : zi 12 13 = some (.aload_n 0, 1)) rfl ⟨by omega, by omega⟩ ?_
      refine Fr.gR (c := (21 + 4 * t0)) (c2 := (23 + 4 * t0 + 1)) (ci := 1) (k := 1) 1 (by decide +kernel : zi 12 14 = some (.getfield 15, 3)) (by decide +kernel) (by decide +kernel) (by rw [(zlaw_sh _ ht0).1]) (by omega) rfl (fun q => q _ (hK.2.1 _ (zlaw_T1 _ ht0))) ?_
      refine Fr.ildn (by decide +kernel : zi 12 17 = some (.iload_n 1, 1)) rfl ?_
      refine Fr.aldn (c := (21 + 4 * t0 + 1)) (by decide +kernel : zi 12 18 = some (.aload_n 0, 1)) rfl ⟨by omega, by omega⟩ ?_
      refine Fr.gI (c := (21 + 4 * t0)) (ci := 1) (k := 3) (t := 0) 3 (by decide +kernel : zi 12 19 = some (.getfield 21, 3)) (by decide +kernel) (by decide +kernel) (by rw [(zlaw_sh _ ht0).1]) (by omega) rfl ?_
      obtain ⟨⟨g0, g1⟩, h⟩ := h
      refine Fr.iast (c := (23 + 4 * t0)) (N := 3) (by decide +kernel : zi 12 22 = some (.iastore, 1)) (zlaw_sh _ ht0).2.2.1 (by omega) g0 g1 ?_
      exact Fr.retV (by decide +kernel : zi 12 23 = some (.return_, 1)) (by decide +kernel) h
theorem e12 {xs : Nat → Int} {L : Nat} {T : List (Nat × Int × Int)} {n : Nat} {d : Nat} {t0 : Nat} {v1 : Int} {s : Pl} {Q : Option AV → Pl → Prop} (hd : 1 ≤ d) (k : Fr xs L T n (d - 1) 12 0 [some (rf (21 + 4 * t0 + 1)), some (it v1)] [] s Q) : Ev xs L T n d 12 [rf (21 + 4 * t0 + 1), it v1] s Q := Ev.of (by decide) _ rfl hd k
-- 13 X1_value
theorem f13_0 {xs : Nat → Int} {L : Nat} {d : Nat} {t0 : Nat} {v1 : Int} {s : Pl} {P : Int → Pl → Prop} (ht0 : t0 < 6) (h : ((v1 < 0 → P 0 s) ∧ (¬ (v1 < 0) → ((v1 < 3 → ((¬ v1 = 0 → (0 ≤ zw (v1 - 1) ∧ zw (v1 - 1) < 3) ∧ Ev xs L T0 106 d 230 [it 0, it (s (23 + 4 * t0) (zw (v1 - 1)))] s (qi fun r2 s1 => Fr xs L T0 106 d 13 37 [some (rf (21 + 4 * t0 + 1)), some (it v1), some (rf 59), some (it (-1)), none, none, none] [it r2] s1 (qi P))) ∧ (¬ (¬ v1 = 0) → Fr xs L T0 106 d 13 37 [some (rf (21 + 4 * t0 + 1)), some (it v1), some (rf 59), some (it (-1)), none, none, none] [it 0] s (qi P)))) ∧ (¬ (v1 < 3) → P 0 s))))) : Fr xs L T0 106 d 13 0 [some (rf (21 + 4 * t0 + 1)), some (it v1), some (rf 59), none, none, none, none] [] s (qi P) := by
  refine Fr.ildn (by decide +kernel : zi 13 0 = some (.iload_n 1, 1)) rfl ?_
  refine Fr.if0 (q := 13) (by decide +kernel : zi 13 1 = some (.ifCond .lt 12, 3)) (by decide +kernel) (fun g9 => ?_) (fun g9 => ?_)
  · have h := h.1 g9
    refine Fr.iconst (by decide +kernel : zi 13 13 = some (.iconst 0, 1)) (by decide) ?_
    exact Fr.retI (by decide +kernel : zi 13 14 = some (.ireturn, 1)) (by decide +kernel) h
  · have h := h.2 g9
    refine Fr.ildn (by decide +kernel : zi 13 4 = some (.iload_n 1, 1)) rfl ?_
    refine Fr.aldn (c := (21 + 4 * t0 + 1)) (by decide +kernel : zi 13 5 = some (.aload_n 0, 1)) rfl ⟨by omega, by omega⟩ ?_
    refine Fr.gR (c := (21 + 4 * t0)) (c2 := (23 + 4 * t0 + 1)) (ci := 1) (k := 1) 1 (by decide +kernel : zi 13 6 = some (.getfield 15, 3)) (by decide +kernel) (by decide +kernel) (by rw [(zlaw_sh _ ht0).1]) (by omega) rfl (fun q => q _ (KR0.2.1 _ (zlaw_T1 _ ht0))) ?_
    refine Fr.alen (c := (23 + 4 * t0)) (N := 3) (K := 20) (by decide +kernel : zi 13 9 = some (.arraylength, 1)) (zlaw_sh _ ht0).2.2.1 (by decide) (by omega) ?_
    refine Fr.if2 (q := 15) (by decide +kernel : zi 13 10 = some (.if_icmp .lt 5, 3)) (by decide +kernel) (fun g9 => ?_) (fun g9 => ?_)
    · have h := h.1 g9
      refine Fr.iconst (by decide +kernel : zi 13 15 = some (.iconst (-1), 1)) (by decide) ?_
      refine Fr.istn (lv2 := [some (rf (21 + 4 * t0 + 1)), some (it v1), some (rf 59), some (it (-1)), none, none, none]) (by decide +kernel : zi 13 16 = some (.istore_n 3, 1)) (Nat.le_of_ble_eq_true rfl) rfl ?_
      refine Fr.ildn (by decide +kernel : zi 13 17 = some (.iload_n 1, 1)) rfl ?_
      refine Fr.if0 (q := 25) (by decide +kernel : zi 13 18 = some (.ifCond .ne 7, 3)) (by decide +kernel) (fun g9 => ?_) (fun g9 => ?_)
      · have h := h.1 g9
        refine Fr.iconst (by decide +kernel : zi 13 25 = some (.iconst 0, 1)) (by decide) ?_
        refine Fr.aldn (c := (21 + 4 * t0 + 1)) (by decide +kernel : zi 13 26 = some (.aload_n 0, 1)) rfl ⟨by omega, by omega⟩ ?_
        refine Fr.gR (c := (21 + 4 * t0)) (c2 := (23 + 4 * t0 + 1)) (ci := 1) (k := 1) 1 (by decide +kernel : zi 13 27 = some (.getfield 15, 3)) (by decide +kernel) (by decide +kernel) (by rw [(zlaw_sh _ ht0).1]) (by omega) rfl (fun q => q _ (KR0.2.1 _ (zlaw_T1 _ ht0))) ?_
        refine Fr.ildn (by decide +kernel : zi 13 30 = some (.iload_n 1, 1)) rfl ?_
        refine Fr.iconst (by decide +kernel : zi 13 31 = some (.iconst 1, 1)) (by decide) ?_
        refine Fr.isub (by decide +kernel : zi 13 32 = some (.isub, 1)) ?_
        obtain ⟨⟨g0, g1⟩, h⟩ := h
        refine Fr.iald (c := (23 + 4 * t0)) (N := 3) (by decide +kernel : zi 13 33 = some (.iaload, 1)) (zlaw_sh _ ht0).2.2.1 (by omega) g0 g1 ?_
        refine Fr.callI (y2 := 230) (na := 2) (as := [it 0, it (s (23 + 4 * t0) (zw (v1 - 1)))]) (rest := []) (by decide +kernel : zi 13 34 = some (.invokestatic 25, 3)) rfl (by decide +kernel) (by decide +kernel) rfl rfl (zok_S rfl (by decide) (by decide +kernel) rfl (Nat.le_of_ble_eq_true rfl)) h (fun r2 s1 h => ?_)
        exact h
      · have h := h.2 g9
        refine Fr.iconst (by decide +kernel : zi 13 21 = some (.iconst 0, 1)) (by decide) ?_
        refine Fr.goto (q := 37) (by decide +kernel : zi 13 22 = some (.goto 15, 3)) (by decide +kernel) ?_
        exact h
    · have h := h.2 g9
      refine Fr.iconst (by decide +kernel : zi 13 13 = some (.iconst 0, 1)) (by decide) ?_
      exact Fr.retI (by decide +kernel : zi 13 14 = some (.ireturn, 1)) (by decide +kernel) h
theorem e13 {xs : Nat → Int} {L : Nat} {d : Nat} {t0 : Nat} {v1 : Int} {s : Pl} {Q : Option AV → Pl → Prop} (hd : 1 ≤ d) (k : Fr xs L T0 106 (d - 1) 13 0 [some (rf (21 + 4 * t0 + 1)), some (it v1), some (rf 59), none, none, none, none] [] s Q) : Ev xs L T0 106 d 13 [rf (21 + 4 * t0 + 1), it v1, rf 59] s Q := Ev.of (by decide) _ rfl hd k
theorem f13_37 {xs : Nat → Int} {L : Nat} {d : Nat} {t0 : Nat} {v1 : Int} {v3 : Int} {vs0 : Int} {s : Pl} {P : Int → Pl → Prop} (ht0 : t0 < 6) (h : Fr xs L T0 106 d 13 43 [some (rf (21 + 4 * t0 + 1)), some (it v1), some (rf 59), some (it v3), some (it vs0), some (it vs0), none] [] s (qi P)) : Fr xs L T0 106 d 13 37 [some (rf (21 + 4 * t0 + 1)), some (it v1), some (rf 59), some (it v3), none, none, none] [it vs0] s (qi P) := by
  refine Fr.ist (lv2 := [some (rf (21 + 4 * t0 + 1)), some (it v1), some (rf 59), some (it v3), some (it vs0), none, none]) (by decide +kernel : zi 13 37 = some (.istore 4, 2)) (Nat.le_of_ble_eq_true rfl) rfl ?_
  refine Fr.ild (by decide +kernel : zi 13 39 = some (.iload 4, 2)) rfl ?_
  refine Fr.ist (lv2 := [some (rf (21 + 4 * t0 + 1)), some (it v1), some (rf 59), some (it v3), some (it vs0), some (it vs0), none]) (by decide +kernel : zi 13 41 = some (.istore 5, 2)) (Nat.le_of_ble_eq_true rfl) rfl ?_
  exact h
theorem f13_43 {xs : Nat → Int} {L : Nat} {d : Nat} {t0 : Nat} {v1 : Int} {v3 : Int} {v4 : Int} {v5 : Int} {w6 : Option AV} {s : Pl} {P : Int → Pl → Prop} (ht0 : t0 < 6) (h : (0 ≤ v1 ∧ v1 < 3) ∧ ((s (23 + 4 * t0) v1 ≤ v5 → Fr xs L T0 106 d 13 167 [some (rf (21 + 4 * t0 + 1)), some (it v1), some (rf 59), some (it v3), some (it v4), some (it v5), w6] [] s (qi P)) ∧ (¬ (s (23 + 4 * t0) v1 ≤ v5) → ((160 ≤ v5 → Fr xs L T0 106 d 13 167 [some (rf (21 + 4 * t0 + 1)), some (it v1), some (rf 59), some (it v3), some (it v4), some (it v5), w6] [] s (qi P)) ∧ (¬ (160 ≤ v5) → (0 ≤ v5 ∧ v5 < 160) ∧ ((s (22 + 4 * t0) v5 < (-6) → ((s (22 + 4 * t0) v5 = (-12) → Fr xs L T0 106 d 13 103 [some (rf (21 + 4 * t0 + 1)), some (it v1), some (rf 59), some (it v3), some (it v4), some (it v5), some (it (s (22 + 4 * t0) v5))] [] s (qi P)) ∧ (¬ (s (22 + 4 * t0) v5 = (-12)) → ((s (22 + 4 * t0) v5 = (-13) → Fr xs L T0 106 d 13 103 [some (rf (21 + 4 * t0 + 1)), some (it v1), some (rf 59), some (it v3), some (it v4), some (it v5), some (it (s (22 + 4 * t0) v5))] [] s (qi P)) ∧ (¬ (s (22 + 4 * t0) v5 = (-13)) → Fr xs L T0 106 d 13 103 [some (rf (21 + 4 * t0 + 1)), some (it v1), some (rf 59), some (it (zw (v3 + (-1)))), some (it v4), some (it v5), some (it (s (22 + 4 * t0) v5))] [] s (qi P)))))) ∧ (¬ (s (22 + 4 * t0) v5 < (-6)) → Fr xs L T0 106 d 13 103 [some (rf (21 + 4 * t0 + 1)), some (it v1), some (rf 59), some (it (zw (v3 + 1))), some (it v4), some (it v5), some (it (s (22 + 4 * t0) v5))] [] s (qi P)))))))) : Fr xs L T0 106 d 13 43 [some (rf (21 + 4 * t0 + 1)), some (it v1), some (rf 59), some (it v3), some (it v4), some (it v5), w6] [] s (qi P) := by
  refine Fr.ild (by decide +kernel : zi 13 43 = some (.iload 5, 2)) rfl ?_
  refine Fr.aldn (c := (21 + 4 * t0 + 1)) (by decide +kernel : zi 13 45 = some (.aload_n 0, 1)) rfl ⟨by omega, by omega⟩ ?_
  refine Fr.gR (c := (21 + 4 * t0)) (c2 := (23 + 4 * t0 + 1)) (ci := 1) (k := 1) 1 (by decide +kernel : zi 13 46 = some (.getfield 15, 3)) (by decide +kernel) (by decide +kernel) (by rw [(zlaw_sh _ ht0).1]) (by omega) rfl (fun q => q _ (KR0.2.1 _ (zlaw_T1 _ ht0))) ?_
  refine Fr.ildn (by decide +kernel : zi 13 49 = some (.iload_n 1, 1)) rfl ?_
  obtain ⟨⟨g0, g1⟩, h⟩ := h
  refine Fr.iald (c := (23 + 4 * t0)) (N := 3) (by decide +kernel : zi 13 50 = some (.iaload, 1)) (zlaw_sh _ ht0).2.2.1 (by omega) g0 g1 ?_
  refine Fr.if2 (q := 167) (by decide +kernel : zi 13 51 = some (.if_icmp .ge 116, 3)) (by decide +kernel) (fun g9 => ?_) (fun g9 => ?_)
  · have h := h.1 g9
    exact h
  · have h := h.2 g9
    refine Fr.ild (by decide +kernel : zi 13 54 = some (.iload 5, 2)) rfl ?_
    refine Fr.aldn (c := (21 + 4 * t0 + 1)) (by decide +kernel : zi 13 56 = some (.aload_n 0, 1)) rfl ⟨by omega, by omega⟩ ?_
    refine Fr.gR (c := (21 + 4 * t0)) (c2 := (22 + 4 * t0 + 1)) (ci := 1) (k := 0) 0 (by decide +kernel : zi 13 57 = some (.getfield 9, 3)) (by decide +kernel) (by decide +kernel) (by rw [(zlaw_sh _ ht0).1]) (by omega) rfl (fun q => q _ (KR0.2.1 _ (zlaw_T0 _ ht0))) ?_
    refine Fr.alen (c := (22 + 4 * t0)) (N := 160) (K := 20) (by decide +kernel : zi 13 60 = some (.arraylength, 1)) (zlaw_sh _ ht0).2.1 (by decide) (by omega) ?_
    refine Fr.if2 (q := 167) (by decide +kernel : zi 13 61 = some (.if_icmp .ge 106, 3)) (by decide +kernel) (fun g9 => ?_) (fun g9 => ?_)
    · have h := h.1 g9
      exact h
    · have h := h.2 g9
      refine Fr.aldn (c := (21 + 4 * t0 + 1)) (by decide +kernel : zi 13 64 = some (.aload_n 0, 1)) rfl ⟨by omega, by omega⟩ ?_
      refine Fr.gR (c := (21 + 4 * t0)) (c2 := (22 + 4 * t0 + 1)) (ci := 1) (k := 0) 0 (by decide +kernel : zi 13 65 = some (.getfield 9, 3)) (by decide +kernel) (by decide +kernel) (by rw [(zlaw_sh _ ht0).1]) (by omega) rfl (fun q => q _ (KR0.2.1 _ (zlaw_T0 _ ht0))) ?_
      refine Fr.ild (by decide +kernel : zi 13 68 = some (.iload 5, 2)) rfl ?_
      obtain ⟨⟨g0, g1⟩, h⟩ := h
      refine Fr.iald (c := (22 + 4 * t0)) (N := 160) (by decide +kernel : zi 13 70 = some (.iaload, 1)) (zlaw_sh _ ht0).2.1 (by omega) g0 g1 ?_
      refine Fr.ist (lv2 := [some (rf (21 + 4 * t0 + 1)), some (it v1), some (rf 59), some (it v3), some (it v4), some (it v5), some (it (s (22 + 4 * t0) v5))]) (by decide +kernel : zi 13 71 = some (.istore 6, 2)) (Nat.le_of_ble_eq_true rfl) rfl ?_
      refine Fr.ild (by decide +kernel : zi 13 73 = some (.iload 6, 2)) rfl ?_
      refine Fr.bipush (by decide +kernel : zi 13 75 = some (.bipush (-6), 2)) (by decide) ?_
      refine Fr.if2 (q := 86) (by decide +kernel : zi 13 77 = some (.if_icmp .lt 9, 3)) (by decide +kernel) (fun g9 => ?_) (fun g9 => ?_)
      · have h := h.1 g9
        refine Fr.ild (by decide +kernel : zi 13 86 = some (.iload 6, 2)) rfl ?_
        refine Fr.bipush (by decide +kernel : zi 13 88 = some (.bipush (-12), 2)) (by decide) ?_
        refine Fr.if2 (q := 103) (by decide +kernel : zi 13 90 = some (.if_icmp .eq 13, 3)) (by decide +kernel) (fun g9 => ?_) (fun g9 => ?_)
        · have h := h.1 g9
          exact h
        · have h := h.2 g9
          refine Fr.ild (by decide +kernel : zi 13 93 = some (.iload 6, 2)) rfl ?_
          refine Fr.bipush (by decide +kernel : zi 13 95 = some (.bipush (-13), 2)) (by decide) ?_
          refine Fr.if2 (q := 103) (by decide +kernel : zi 13 97 = some (.if_icmp .eq 6, 3)) (by decide +kernel) (fun g9 => ?_) (fun g9 => ?_)
          · have h := h.1 g9
            exact h
          · have h := h.2 g9
            refine Fr.iinc (lv2 := [some (rf (21 + 4 * t0 + 1)), some (it v1), some (rf 59), some (it (zw (v3 + (-1)))), some (it v4), some (it v5), some (it (s (22 + 4 * t0) v5))]) (by decide +kernel : zi 13 100 = some (.iinc 3 (-1), 3)) (Nat.le_of_ble_eq_true rfl) rfl rfl ?_
            exact h
      · have h := h.2 g9
        refine Fr.iinc (lv2 := [some (rf (21 + 4 * t0 + 1)), some (it v1), some (rf 59), some (it (zw (v3 + 1))), some (it v4), some (it v5), some (it (s (22 + 4 * t0) v5))]) (by decide +kernel : zi 13 80 = some (.iinc 3 1, 3)) (Nat.le_of_ble_eq_true rfl) rfl rfl ?_
        refine Fr.goto (q := 103) (by decide +kernel : zi 13 83 = some (.goto 20, 3)) (by decide +kernel) ?_
        exact h
theorem f13_103 {xs : Nat → Int} {L : Nat} {d : Nat} {t0 : Nat} {v1 : Int} {v3 : Int} {v4 : Int} {v5 : Int} {v6 : Int} {s : Pl} {P : Int → Pl → Prop} (ht0 : t0 < 6) (h : ((v3 < 0 → P 0 s) ∧ (¬ (v3 < 0) → ((zw (v3 + 1) < 40 → ((v6 < (-6) → (0 ≤ v3 ∧ v3 < 40) ∧ (0 ≤ zw (v3 + 1) ∧ zw (v3 + 1) < 40) ∧ Ev xs L T0 106 d 15 [it v6, it (s (24 + 4 * t0) v3), it (s (24 + 4 * t0) (zw (v3 + 1)))] s (qi fun r2 s1 => Fr xs L T0 106 d 13 160 [some (rf (21 + 4 * t0 + 1)), some (it v1), some (rf 59), some (it v3), some (it v4), some (it v5), some (it v6)] [it r2, it v3, rf (24 + 4 * t0 + 1)] s1 (qi P))) ∧ (¬ (v6 < (-6)) → Ev xs L T0 106 d 14 [it v6, rf 59] s (qi fun r4 s3 => Fr xs L T0 106 d 13 160 [some (rf (21 + 4 * t0 + 1)), some (it v1), some (rf 59), some (it v3), some (it v4), some (it v5), some (it v6)] [it r4, it v3, rf (24 + 4 * t0 + 1)] s3 (qi P))))) ∧ (¬ (zw (v3 + 1) < 40) → P 0 s))))) : Fr xs L T0 106 d 13 103 [some (rf (21 + 4 * t0 + 1)), some (it v1), some (rf 59), some (it v3), some (it v4), some (it v5), some (it v6)] [] s (qi P) := by
  refine Fr.ildn (by decide +kernel : zi 13 103 = some (.iload_n 3, 1)) rfl ?_
  refine Fr.if0 (q := 118) (by decide +kernel : zi 13 104 = some (.ifCond .lt 14, 3)) (by decide +kernel) (fun g9 => ?_) (fun g9 => ?_)
  · have h := h.1 g9
    refine Fr.iconst (by decide +kernel : zi 13 118 = some (.iconst 0, 1)) (by decide) ?_
    exact Fr.retI (by decide +kernel : zi 13 119 = some (.ireturn, 1)) (by decide +kernel) h
  · have h := h.2 g9
    refine Fr.ildn (by decide +kernel : zi 13 107 = some (.iload_n 3, 1)) rfl ?_
    refine Fr.iconst (by decide +kernel : zi 13 108 = some (.iconst 1, 1)) (by decide) ?_
    refine Fr.iadd (by decide +kernel : zi 13 109 = some (.iadd, 1)) ?_
    refine Fr.aldn (c := (21 + 4 * t0 + 1)) (by decide +kernel : zi 13 110 = some (.aload_n 0, 1)) rfl ⟨by omega, by omega⟩ ?_
    refine Fr.gR (c := (21 + 4 * t0)) (c2 := (24 + 4 * t0 + 1)) (ci := 1) (k := 2) 2 (by decide +kernel : zi 13 111 = some (.getfield 18, 3)) (by decide +kernel) (by decide +kernel) (by rw [(zlaw_sh _ ht0).1]) (by omega) rfl (fun q => q _ (KR0.2.1 _ (zlaw_T2 _ ht0))) ?_
    refine Fr.alen (c := (24 + 4 * t0)) (N := 40) (K := 20) (by decide +kernel : zi 13 114 = some (.arraylength, 1)) (zlaw_sh _ ht0).2.2.2 (by decide) (by omega) ?_
    refine Fr.if2 (q := 120) (by decide +kernel : zi 13 115 = some (.if_icmp .lt 5, 3)) (by decide +kernel) (fun g9 => ?_) (fun g9 => ?_)
    · have h := h.1 g9
      refine Fr.aldn (c := (21 + 4 * t0 + 1)) (by decide +kernel : zi 13 120 = some (.aload_n 0, 1)) rfl ⟨by omega, by omega⟩ ?_
      refine Fr.gR (c := (21 + 4 * t0)) (c2 := (24 + 4 * t0 + 1)) (ci := 1) (k := 2) 2 (by decide +kernel : zi 13 121 = some (.getfield 18, 3)) (by decide +kernel) (by decide +kernel) (by rw [(zlaw_sh _ ht0).1]) (by omega) rfl (fun q => q _ (KR0.2.1 _ (zlaw_T2 _ ht0))) ?_
      refine Fr.ildn (by decide +kernel : zi 13 124 = some (.iload_n 3, 1)) rfl ?_
      refine Fr.ild (by decide +kernel : zi 13 125 = some (.iload 6, 2)) rfl ?_
      refine Fr.bipush (by decide +kernel : zi 13 127 = some (.bipush (-6), 2)) (by decide) ?_
      refine Fr.if2 (q := 141) (by decide +kernel : zi 13 129 = some (.if_icmp .lt 12, 3)) (by decide +kernel) (fun g9 => ?_) (fun g9 => ?_)
      · have h := h.1 g9
        refine Fr.ild (by decide +kernel : zi 13 141 = some (.iload 6, 2)) rfl ?_
        refine Fr.aldn (c := (21 + 4 * t0 + 1)) (by decide +kernel : zi 13 143 = some (.aload_n 0, 1)) rfl ⟨by omega, by omega⟩ ?_
        refine Fr.gR (c := (21 + 4 * t0)) (c2 := (24 + 4 * t0 + 1)) (ci := 1) (k := 2) 2 (by decide +kernel : zi 13 144 = some (.getfield 18, 3)) (by decide +kernel) (by decide +kernel) (by rw [(zlaw_sh _ ht0).1]) (by omega) rfl (fun q => q _ (KR0.2.1 _ (zlaw_T2 _ ht0))) ?_
        refine Fr.ildn (by decide +kernel : zi 13 147 = some (.iload_n 3, 1)) rfl ?_
        obtain ⟨⟨g0, g1⟩, h⟩ := h
        refine Fr.iald (c := (24 + 4 * t0)) (N := 40) (by decide +kernel : zi 13 148 = some (.iaload, 1)) (zlaw_sh _ ht0).2.2.2 (by omega) g0 g1 ?_
        refine Fr.aldn (c := (21 + 4 * t0 + 1)) (by decide +kernel : zi 13 149 = some (.aload_n 0, 1)) rfl ⟨by omega, by omega⟩ ?_
        refine Fr.gR (c := (21 + 4 * t0)) (c2 := (24 + 4 * t0 + 1)) (ci := 1) (k := 2) 2 (by decide +kernel : zi 13 150 = some (.getfield 18, 3)) (by decide +kernel) (by decide +kernel) (by rw [(zlaw_sh _ ht0).1]) (by omega) rfl (fun q => q _ (KR0.2.1 _ (zlaw_T2 _ ht0))) ?_
        refine Fr.ildn (by decide +kernel : zi 13 153 = some (.iload_n 3, 1)) rfl ?_
        refine Fr.iconst (by decide +kernel : zi 13 154 = some (.iconst 1, 1)) (by decide) ?_
        refine Fr.iadd (by decide +kernel : zi 13 155 = some (.iadd, 1)) ?_
        obtain ⟨⟨g0, g1⟩, h⟩ := h
        refine Fr.iald (c := (24 + 4 * t0)) (N := 40) (by decide +kernel : zi 13 156 = some (.iaload, 1)) (zlaw_sh _ ht0).2.2.2 (by omega) g0 g1 ?_
        refine Fr.callI (y2 := 15) (na := 3) (as := [it v6, it (s (24 + 4 * t0) v3), it (s (24 + 4 * t0) (zw (v3 + 1)))]) (rest := [it v3, rf (24 + 4 * t0 + 1)]) (by decide +kernel : zi 13 157 = some (.invokestatic 35, 3)) rfl (by decide +kernel) (by decide +kernel) rfl rfl (zok_S rfl (by decide) (by decide +kernel) rfl (Nat.le_of_ble_eq_true rfl)) h (fun r2 s1 h => ?_)
        exact h
      · have h := h.2 g9
        refine Fr.ild (by decide +kernel : zi 13 132 = some (.iload 6, 2)) rfl ?_
        refine Fr.aldn (c := 59) (by decide +kernel : zi 13 134 = some (.aload_n 2, 1)) rfl ⟨by omega, by omega⟩ ?_
        refine Fr.callI (y2 := 14) (na := 2) (as := [it v6, rf 59]) (rest := [it v3, rf (24 + 4 * t0 + 1)]) (by decide +kernel : zi 13 135 = some (.invokestatic 31, 3)) rfl (by decide +kernel) (by decide +kernel) rfl rfl (zok_S rfl (by decide) (by decide +kernel) rfl (Nat.le_of_ble_eq_true rfl)) h (fun r4 s3 h => ?_)
        refine Fr.goto (q := 160) (by decide +kernel : zi 13 138 = some (.goto 22, 3)) (by decide +kernel) ?_
        exact h
    · have h := h.2 g9
      refine Fr.iconst (by decide +kernel : zi 13 118 = some (.iconst 0, 1)) (by decide) ?_
      exact Fr.retI (by decide +kernel : zi 13 119 = some (.ireturn, 1)) (by decide +kernel) h
theorem f13_160 {xs : Nat → Int} {L : Nat} {d : Nat} {t0 : Nat} {v1 : Int} {v3 : Int} {v4 : Int} {v5 : Int} {v6 : Int} {vs0 : Int} {vs1 : Int} {ts2 : Nat} {s : Pl} {P : Int → Pl → Prop} (ht0 : t0 < 6) (hts2 : ts2 < 6) (h : (0 ≤ vs1 ∧ vs1 < 40) ∧ Fr xs L T0 106 d 13 43 [some (rf (21 + 4 * t0 + 1)), some (it v1), some (rf 59), some (it v3), some (it v4), some (it (zw (v5 + 1))), some (it v6)] [] (zup s (24 + 4 * ts2) vs1 vs0) (qi P)) : Fr xs L T0 106 d 13 160 [some (rf (21 + 4 * t0 + 1)), some (it v1), some (rf 59), some (it v3), some (it v4), some (it v5), some (it v6)] [it vs0, it vs1, rf (24 + 4 * ts2 + 1)] s (qi P) := by
  obtain ⟨⟨g0, g1⟩, h⟩ := h
  refine Fr.iast (c := (24 + 4 * ts2)) (N := 40) (by decide +kernel : zi 13 160 = some (.iastore, 1)) (zlaw_sh _ hts2).2.2.2 (by omega) g0 g1 ?_
  refine Fr.iinc (lv2 := [some (rf (21 + 4 * t0 + 1)), some (it v1), some (rf 59), some (it v3), some (it v4), some (it (zw (v5 + 1))), some (it v6)]) (by decide +kernel : zi 13 161 = some (.iinc 5 1, 3)) (Nat.le_of_ble_eq_true rfl) rfl rfl ?_
  refine Fr.goto (q := 43) (by decide +kernel : zi 13 164 = some (.goto (-121), 3)) (by decide +kernel) ?_
  exact h
theorem f13_167 {xs : Nat → Int} {L : Nat} {d : Nat} {t0 : Nat} {v1 : Int} {v3 : Int} {v4 : Int} {v5 : Int} {w6 : Option AV} {s : Pl} {P : Int → Pl → Prop} (ht0 : t0 < 6) (h : (0 ≤ (0 : Int) ∧ (0 : Int) < 40) ∧ P (s (24 + 4 * t0) 0) s) : Fr xs L T0 106 d 13 167 [some (rf (21 + 4 * t0 + 1)), some (it v1), some (rf 59), some (it v3), some (it v4), some (it v5), w6] [] s (qi P) := by
  refine Fr.aldn (c := (21 + 4 * t0 + 1)) (by decide +kernel : zi 13 167 = some (.aload_n 0, 1)) rfl ⟨by omega, by omega⟩ ?_
  refine Fr.gR (c := (21 + 4 * t0)) (c2 := (24 + 4 * t0 + 1)) (ci := 1) (k := 2) 2 (by decide +kernel : zi 13 168 = some (.getfield 18, 3)) (by decide +kernel) (by decide +kernel) (by rw [(zlaw_sh _ ht0).1]) (by omega) rfl (fun q => q _ (KR0.2.1 _ (zlaw_T2 _ ht0))) ?_
  refine Fr.iconst (by decide +kernel : zi 13 171 = some (.iconst 0, 1)) (by decide) ?_
  obtain ⟨⟨g0, g1⟩, h⟩ := h
  refine Fr.iald (c := (24 + 4 * t0)) (N := 40) (by decide +kernel : zi 13 172 = some (.iaload, 1)) (zlaw_sh _ ht0).2.2.2 (by omega) g0 g1 ?_
  exact Fr.retI (by decide +kernel : zi 13 173 = some (.ireturn, 1)) (by decide +kernel) h
-- 14 X1_operand
theorem f14_0 {xs : Nat → Int} {L : Nat} {d : Nat} {v0 : Int} {s : Pl} {P : Int → Pl → Prop} (h : ((v0 < 0 → ((6 ≤ zw ((-1) - v0) → P 0 s) ∧ (¬ (6 ≤ zw ((-1) - v0)) → (0 ≤ zw ((-1) - v0) ∧ zw ((-1) - v0) < 6) ∧ P (s 58 (zw ((-1) - v0))) s))) ∧ (¬ (v0 < 0) → P v0 s))) : Fr xs L T0 106 d 14 0 [some (it v0), some (rf 59)] [] s (qi P) := by
  refine Fr.ildn (by decide +kernel : zi 14 0 = some (.iload_n 0, 1)) rfl ?_
  refine Fr.if0 (q := 6) (by decide +kernel : zi 14 1 = some (.ifCond .lt 5, 3)) (by decide +kernel) (fun g9 => ?_) (fun g9 => ?_)
  · have h := h.1 g9
    refine Fr.iconst (by decide +kernel : zi 14 6 = some (.iconst (-1), 1)) (by decide) ?_
    refine Fr.ildn (by decide +kernel : zi 14 7 = some (.iload_n 0, 1)) rfl ?_
    refine Fr.isub (by decide +kernel : zi 14 8 = some (.isub, 1)) ?_
    refine Fr.aldn (c := 59) (by decide +kernel : zi 14 9 = some (.aload_n 1, 1)) rfl ⟨by omega, by omega⟩ ?_
    refine Fr.alen (c := 58) (N := 6) (K := 20) (by decide +kernel : zi 14 10 = some (.arraylength, 1)) (by decide +kernel) (by decide) (by decide) ?_
    refine Fr.if2 (q := 22) (by decide +kernel : zi 14 11 = some (.if_icmp .ge 11, 3)) (by decide +kernel) (fun g9 => ?_) (fun g9 => ?_)
    · have h := h.1 g9
      refine Fr.iconst (by decide +kernel : zi 14 22 = some (.iconst 0, 1)) (by decide) ?_
      exact Fr.retI (by decide +kernel : zi 14 23 = some (.ireturn, 1)) (by decide +kernel) h
    · have h := h.2 g9
      refine Fr.aldn (c := 59) (by decide +kernel : zi 14 14 = some (.aload_n 1, 1)) rfl ⟨by omega, by omega⟩ ?_
      refine Fr.iconst (by decide +kernel : zi 14 15 = some (.iconst (-1), 1)) (by decide) ?_
      refine Fr.ildn (by decide +kernel : zi 14 16 = some (.iload_n 0, 1)) rfl ?_
      refine Fr.isub (by decide +kernel : zi 14 17 = some (.isub, 1)) ?_
      obtain ⟨⟨g0, g1⟩, h⟩ := h
      refine Fr.iald (c := 58) (N := 6) (by decide +kernel : zi 14 18 = some (.iaload, 1)) (by decide +kernel) (by decide) g0 g1 ?_
      refine Fr.goto (q := 23) (by decide +kernel : zi 14 19 = some (.goto 4, 3)) (by decide +kernel) ?_
      exact Fr.retI (by decide +kernel : zi 14 23 = some (.ireturn, 1)) (by decide +kernel) h
  · have h := h.2 g9
    refine Fr.ildn (by decide +kernel : zi 14 4 = some (.iload_n 0, 1)) rfl ?_
    exact Fr.retI (by decide +kernel : zi 14 5 = some (.ireturn, 1)) (by decide +kernel) h
theorem e14 {xs : Nat → Int} {L : Nat} {d : Nat} {v0 : Int} {s : Pl} {Q : Option AV → Pl → Prop} (hd : 1 ≤ d) (k : Fr xs L T0 106 (d - 1) 14 0 [some (it v0), some (rf 59)] [] s Q) : Ev xs L T0 106 d 14 [it v0, rf 59] s Q := Ev.of (by decide) _ rfl hd k
-- 15 X1_result
theorem f15_0 {xs : Nat → Int} {L : Nat} {d : Nat} {v0 : Int} {v1 : Int} {v2 : Int} {s : Pl} {P : Int → Pl → Prop} (h : ((¬ v0 = (-61) ∧ ¬ v0 = (-60) ∧ ¬ v0 = (-45) ∧ ¬ v0 = (-43) ∧ ¬ v0 = (-42) ∧ ¬ v0 = (-12) ∧ ¬ v0 = (-11) ∧ ¬ v0 = (-10) → P (zw (-v1)) s) ∧ (v0 = (-61) → ((¬ v1 = v2 → P 0 s) ∧ (¬ (¬ v1 = v2) → P 1 s))) ∧ (v0 = (-60) → ((v2 ≤ v1 → P 0 s) ∧ (¬ (v2 ≤ v1) → P 1 s))) ∧ (v0 = (-45) → P (zw (v1 - v2)) s) ∧ (v0 = (-43) → P (zw (v1 + v2)) s) ∧ (v0 = (-42) → P (zw (v1 * v2)) s) ∧ (v0 = (-12) → ((¬ v1 = 0 → P 0 s) ∧ (¬ (¬ v1 = 0) → P 1 s))) ∧ (v0 = (-11) → ((v1 = 0 → P 0 s) ∧ (¬ (v1 = 0) → ((v2 = 0 → P 0 s) ∧ (¬ (v2 = 0) → P 1 s))))) ∧ (v0 = (-10) → ((¬ v1 = 0 → Fr xs L T0 106 d 15 84 [some (it v0), some (it v1), some (it v2)] [] s (qi P)) ∧ (¬ (¬ v1 = 0) → ((v2 = 0 → P 0 s) ∧ (¬ (v2 = 0) → Fr xs L T0 106 d 15 84 [some (it v0), some (it v1), some (it v2)] [] s (qi P)))))))) : Fr xs L T0 106 d 15 0 [some (it v0), some (it v1), some (it v2)] [] s (qi P) := by
  refine Fr.ildn (by decide +kernel : zi 15 0 = some (.iload_n 0, 1)) rfl ?_
  rcases (show (¬ v0 = (-61) ∧ ¬ v0 = (-60) ∧ ¬ v0 = (-45) ∧ ¬ v0 = (-43) ∧ ¬ v0 = (-42) ∧ ¬ v0 = (-12) ∧ ¬ v0 = (-11) ∧ ¬ v0 = (-10)) ∨ v0 = (-61) ∨ v0 = (-60) ∨ v0 = (-45) ∨ v0 = (-43) ∨ v0 = (-42) ∨ v0 = (-12) ∨ v0 = (-11) ∨ v0 = (-10) by omega) with g9 | g9 | g9 | g9 | g9 | g9 | g9 | g9 | g9
  · have h := h.1 g9
    refine Fr.lsw (off := 147) (q := 148) (by decide +kernel : zi 15 1 = some (.lookupswitch 147 #[(-61, 124), (-60, 113), (-45, 139), (-43, 135), (-42, 143), (-12, 103), (-11, 89), (-10, 75)], 75)) (by decide +kernel) (zlso_no (by simp; omega)) (by decide +kernel) ?_
    refine Fr.ildn (by decide +kernel : zi 15 148 = some (.iload_n 1, 1)) rfl ?_
    refine Fr.ineg (by decide +kernel : zi 15 149 = some (.ineg, 1)) ?_
    exact Fr.retI (by decide +kernel : zi 15 150 = some (.ireturn, 1)) (by decide +kernel) h
  · have h := h.2.1 g9
    refine Fr.lsw (off := 124) (q := 125) (by decide +kernel : zi 15 1 = some (.lookupswitch 147 #[(-61, 124), (-60, 113), (-45, 139), (-43, 135), (-42, 143), (-12, 103), (-11, 89), (-10, 75)], 75)) (by decide +kernel) (by rw [g9]; decide +kernel) (by decide +kernel) ?_
    refine Fr.ildn (by decide +kernel : zi 15 125 = some (.iload_n 1, 1)) rfl ?_
    refine Fr.ildn (by decide +kernel : zi 15 126 = some (.iload_n 2, 1)) rfl ?_
    refine Fr.if2 (q := 134) (by decide +kernel : zi 15 127 = some (.if_icmp .ne 7, 3)) (by decide +kernel) (fun g9 => ?_) (fun g9 => ?_)
    · have h := h.1 g9
      refine Fr.iconst (by decide +kernel : zi 15 134 = some (.iconst 0, 1)) (by decide) ?_
      exact Fr.retI (by decide +kernel : zi 15 135 = some (.ireturn, 1)) (by decide +kernel) h
    · have h := h.2 g9
      refine Fr.iconst (by decide +kernel : zi 15 130 = some (.iconst 1, 1)) (by decide) ?_
      refine Fr.goto (q := 135) (by decide +kernel : zi 15 131 = some (.goto 4, 3)) (by decide +kernel) ?_
      exact Fr.retI (by decide +kernel : zi 15 135 = some (.ireturn, 1)) (by decide +kernel) h
  · have h := h.2.2.1 g9
    refine Fr.lsw (off := 113) (q := 114) (by decide +kernel : zi 15 1 = some (.lookupswitch 147 #[(-61, 124), (-60, 113), (-45, 139), (-43, 135), (-42, 143), (-12, 103), (-11, 89), (-10, 75)], 75)) (by decide +kernel) (by rw [g9]; decide +kernel) (by decide +kernel) ?_
    refine Fr.ildn (by decide +kernel : zi 15 114 = some (.iload_n 1, 1)) rfl ?_
    refine Fr.ildn (by decide +kernel : zi 15 115 = some (.iload_n 2, 1)) rfl ?_
    refine Fr.if2 (q := 123) (by decide +kernel : zi 15 116 = some (.if_icmp .ge 7, 3)) (by decide +kernel) (fun g9 => ?_) (fun g9 => ?_)
    · have h := h.1 g9
      refine Fr.iconst (by decide +kernel : zi 15 123 = some (.iconst 0, 1)) (by decide) ?_
      exact Fr.retI (by decide +kernel : zi 15 124 = some (.ireturn, 1)) (by decide +kernel) h
    · have h := h.2 g9
      refine Fr.iconst (by decide +kernel : zi 15 119 = some (.iconst 1, 1)) (by decide) ?_
      refine Fr.goto (q := 124) (by decide +kernel : zi 15 120 = some (.goto 4, 3)) (by decide +kernel) ?_
      exact Fr.retI (by decide +kernel : zi 15 124 = some (.ireturn, 1)) (by decide +kernel) h
  · have h := h.2.2.2.1 g9
    refine Fr.lsw (off := 139) (q := 140) (by decide +kernel : zi 15 1 = some (.lookupswitch 147 #[(-61, 124), (-60, 113), (-45, 139), (-43, 135), (-42, 143), (-12, 103), (-11, 89), (-10, 75)], 75)) (by decide +kernel) (by rw [g9]; decide +kernel) (by decide +kernel) ?_
    refine Fr.ildn (by decide +kernel : zi 15 140 = some (.iload_n 1, 1)) rfl ?_
    refine Fr.ildn (by decide +kernel : zi 15 141 = some (.iload_n 2, 1)) rfl ?_
    refine Fr.isub (by decide +kernel : zi 15 142 = some (.isub, 1)) ?_
    exact Fr.retI (by decide +kernel : zi 15 143 = some (.ireturn, 1)) (by decide +kernel) h
  · have h := h.2.2.2.2.1 g9
    refine Fr.lsw (off := 135) (q := 136) (by decide +kernel : zi 15 1 = some (.lookupswitch 147 #[(-61, 124), (-60, 113), (-45, 139), (-43, 135), (-42, 143), (-12, 103), (-11, 89), (-10, 75)], 75)) (by decide +kernel) (by rw [g9]; decide +kernel) (by decide +kernel) ?_
    refine Fr.ildn (by decide +kernel : zi 15 136 = some (.iload_n 1, 1)) rfl ?_
    refine Fr.ildn (by decide +kernel : zi 15 137 = some (.iload_n 2, 1)) rfl ?_
    refine Fr.iadd (by decide +kernel : zi 15 138 = some (.iadd, 1)) ?_
    exact Fr.retI (by decide +kernel : zi 15 139 = some (.ireturn, 1)) (by decide +kernel) h
  · have h := h.2.2.2.2.2.1 g9
    refine Fr.lsw (off := 143) (q := 144) (by decide +kernel : zi 15 1 = some (.lookupswitch 147 #[(-61, 124), (-60, 113), (-45, 139), (-43, 135), (-42, 143), (-12, 103), (-11, 89), (-10, 75)], 75)) (by decide +kernel) (by rw [g9]; decide +kernel) (by decide +kernel) ?_
    refine Fr.ildn (by decide +kernel : zi 15 144 = some (.iload_n 1, 1)) rfl ?_
    refine Fr.ildn (by decide +kernel : zi 15 145 = some (.iload_n 2, 1)) rfl ?_
    refine Fr.imul (by decide +kernel : zi 15 146 = some (.imul, 1)) ?_
    exact Fr.retI (by decide +kernel : zi 15 147 = some (.ireturn, 1)) (by decide +kernel) h
  · have h := h.2.2.2.2.2.2.1 g9
    refine Fr.lsw (off := 103) (q := 104) (by decide +kernel : zi 15 1 = some (.lookupswitch 147 #[(-61, 124), (-60, 113), (-45, 139), (-43, 135), (-42, 143), (-12, 103), (-11, 89), (-10, 75)], 75)) (by decide +kernel) (by rw [g9]; decide +kernel) (by decide +kernel) ?_
    refine Fr.ildn (by decide +kernel : zi 15 104 = some (.iload_n 1, 1)) rfl ?_
    refine Fr.if0 (q := 112) (by decide +kernel : zi 15 105 = some (.ifCond .ne 7, 3)) (by decide +kernel) (fun g9 => ?_) (fun g9 => ?_)
    · have h := h.1 g9
      refine Fr.iconst (by decide +kernel : zi 15 112 = some (.iconst 0, 1)) (by decide) ?_
      exact Fr.retI (by decide +kernel : zi 15 113 = some (.ireturn, 1)) (by decide +kernel) h
    · have h := h.2 g9
      refine Fr.iconst (by decide +kernel : zi 15 108 = some (.iconst 1, 1)) (by decide) ?_
      refine Fr.goto (q := 113) (by decide +kernel : zi 15 109 = some (.goto 4, 3)) (by decide +kernel) ?_
      exact Fr.retI (by decide +kernel : zi 15 113 = some (.ireturn, 1)) (by decide +kernel) h
  · have h := h.2.2.2.2.2.2.2.1 g9
    refine Fr.lsw (off := 89) (q := 90) (by decide +kernel : zi 15 1 = some (.lookupswitch 147 #[(-61, 124), (-60, 113), (-45, 139), (-43, 135), (-42, 143), (-12, 103), (-11, 89), (-10, 75)], 75)) (by decide +kernel) (by rw [g9]; decide +kernel) (by decide +kernel) ?_
    refine Fr.ildn (by decide +kernel : zi 15 90 = some (.iload_n 1, 1)) rfl ?_
    refine Fr.if0 (q := 102) (by decide +kernel : zi 15 91 = some (.ifCond .eq 11, 3)) (by decide +kernel) (fun g9 => ?_) (fun g9 => ?_)
    · have h := h.1 g9
      refine Fr.iconst (by decide +kernel : zi 15 102 = some (.iconst 0, 1)) (by decide) ?_
      exact Fr.retI (by decide +kernel : zi 15 103 = some (.ireturn, 1)) (by decide +kernel) h
    · have h := h.2 g9
      refine Fr.ildn (by decide +kernel : zi 15 94 = some (.iload_n 2, 1)) rfl ?_
      refine Fr.if0 (q := 102) (by decide +kernel : zi 15 95 = some (.ifCond .eq 7, 3)) (by decide +kernel) (fun g9 => ?_) (fun g9 => ?_)
      · have h := h.1 g9
        refine Fr.iconst (by decide +kernel : zi 15 102 = some (.iconst 0, 1)) (by decide) ?_
        exact Fr.retI (by decide +kernel : zi 15 103 = some (.ireturn, 1)) (by decide +kernel) h
      · have h := h.2 g9
        refine Fr.iconst (by decide +kernel : zi 15 98 = some (.iconst 1, 1)) (by decide) ?_
        refine Fr.goto (q := 103) (by decide +kernel : zi 15 99 = some (.goto 4, 3)) (by decide +kernel) ?_
        exact Fr.retI (by decide +kernel : zi 15 103 = some (.ireturn, 1)) (by decide +kernel) h
  · have h := h.2.2.2.2.2.2.2.2 g9
    refine Fr.lsw (off := 75) (q := 76) (by decide +kernel : zi 15 1 = some (.lookupswitch 147 #[(-61, 124), (-60, 113), (-45, 139), (-43, 135), (-42, 143), (-12, 103), (-11, 89), (-10, 75)], 75)) (by decide +kernel) (by rw [g9]; decide +kernel) (by decide +kernel) ?_
    refine Fr.ildn (by decide +kernel : zi 15 76 = some (.iload_n 1, 1)) rfl ?_
    refine Fr.if0 (q := 84) (by decide +kernel : zi 15 77 = some (.ifCond .ne 7, 3)) (by decide +kernel) (fun g9 => ?_) (fun g9 => ?_)
    · have h := h.1 g9
      exact h
    · have h := h.2 g9
      refine Fr.ildn (by decide +kernel : zi 15 80 = some (.iload_n 2, 1)) rfl ?_
      refine Fr.if0 (q := 88) (by decide +kernel : zi 15 81 = some (.ifCond .eq 7, 3)) (by decide +kernel) (fun g9 => ?_) (fun g9 => ?_)
      · have h := h.1 g9
        refine Fr.iconst (by decide +kernel : zi 15 88 = some (.iconst 0, 1)) (by decide) ?_
        exact Fr.retI (by decide +kernel : zi 15 89 = some (.ireturn, 1)) (by decide +kernel) h
      · have h := h.2 g9
        exact h
theorem e15 {xs : Nat → Int} {L : Nat} {d : Nat} {v0 : Int} {v1 : Int} {v2 : Int} {s : Pl} {Q : Option AV → Pl → Prop} (hd : 1 ≤ d) (k : Fr xs L T0 106 (d - 1) 15 0 [some (it v0), some (it v1), some (it v2)] [] s Q) : Ev xs L T0 106 d 15 [it v0, it v1, it v2] s Q := Ev.of (by decide) _ rfl hd k
theorem f15_84 {xs : Nat → Int} {L : Nat} {d : Nat} {v0 : Int} {v1 : Int} {v2 : Int} {s : Pl} {P : Int → Pl → Prop} (h : P 1 s) : Fr xs L T0 106 d 15 84 [some (it v0), some (it v1), some (it v2)] [] s (qi P) := by
  refine Fr.iconst (by decide +kernel : zi 15 84 = some (.iconst 1, 1)) (by decide) ?_
  refine Fr.goto (q := 89) (by decide +kernel : zi 15 85 = some (.goto 4, 3)) (by decide +kernel) ?_
  exact Fr.retI (by decide +kernel : zi 15 89 = some (.ireturn, 1)) (by decide +kernel) h
