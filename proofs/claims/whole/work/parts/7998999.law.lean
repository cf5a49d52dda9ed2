/-! the law: every road of its loop -/
section LAWL
variable {xs : Nat → Int} {L : Nat} {d : Nat} {s : Pl} {Q : Option AV → Pl → Prop}
theorem argA {pc : Nat} {st : List AV} {i j : Int} (hz : zi 247 pc = some (.aload_n 0, 1) ∧ zi 247 (pc + 1) = some (.iload_n 3, 1) ∧ zi 247 (pc + 2) = some (.iconst j, 1) ∧ zi 247 (pc + 3) = some (.iadd, 1) ∧ zi 247 (pc + 4) = some (.iaload, 1)) (hj : 1 ≤ j ∧ j ≤ 5) (hi : 0 ≤ i ∧ i + 7 ≤ (L : Int) ∧ L ≤ 3584) (k : Fr xs L T0 106 d 247 (pc + 5) [some (rf 100006), some (rf 1), some (rf 73), some (it i)] (it (xs (i + j).toNat) :: st) s Q) : Fr xs L T0 106 d 247 pc [some (rf 100006), some (rf 1), some (rf 73), some (it i)] st s Q := by
  obtain ⟨h1, h2, h3, h4, h5⟩ := hz
  refine Fr.aldn (c := 100006) h1 rfl ⟨by decide, by decide⟩ ?_
  refine Fr.ildn (v := i) h2 rfl ?_
  refine Fr.iconst h3 ⟨by omega, by omega⟩ ?_
  refine Fr.iadd h4 ?_
  rw [zw_id (by omega) (by omega)]
  exact Fr.giv (j := 6) h5 (by decide) (by omega) (show i + j < ((L : Nat) : Int) by omega) k
theorem argB {pc : Nat} {st : List AV} {i : Int} (hz : zi 247 pc = some (.aload_n 0, 1) ∧ zi 247 (pc + 1) = some (.iload_n 3, 1) ∧ zi 247 (pc + 2) = some (.bipush 6, 2) ∧ zi 247 (pc + 2 + 2) = some (.iadd, 1) ∧ zi 247 (pc + 2 + 2 + 1) = some (.iaload, 1)) (hi : 0 ≤ i ∧ i + 7 ≤ (L : Int) ∧ L ≤ 3584) (k : Fr xs L T0 106 d 247 (pc + 6) [some (rf 100006), some (rf 1), some (rf 73), some (it i)] (it (xs (i + 6).toNat) :: st) s Q) : Fr xs L T0 106 d 247 pc [some (rf 100006), some (rf 1), some (rf 73), some (it i)] st s Q := by
  obtain ⟨h1, h2, h3, h4, h5⟩ := hz
  refine Fr.aldn (c := 100006) h1 rfl ⟨by decide, by decide⟩ ?_
  refine Fr.ildn (v := i) h2 rfl ?_
  refine Fr.bipush h3 (by decide) ?_
  refine Fr.iadd h4 ?_
  rw [zw_id (by omega) (by omega)]
  exact Fr.giv (j := 6) h5 (by decide) (by omega) (show i + 6 < ((L : Nat) : Int) by omega) k
theorem w240_0 {i : Int} (hd : 58 ≤ d) (hx : ∀ j, zR (xs j)) (hi : 0 ≤ i ∧ i + 7 ≤ (L : Int) ∧ L ≤ 3584) (hI : Inv s) (kk : ∀ s2, Inv s2 → Fr xs L T0 106 d 247 1424 [some (rf 100006), some (rf 1), some (rf 73), some (it i)] [] s2 (qi fun r _ => r = 1)) : Fr xs L T0 106 d 247 204 [some (rf 100006), some (rf 1), some (rf 73), some (it i)] [] s (qi fun r _ => r = 1) := by
  refine Fr.aldn (c := 1) (by decide +kernel : zi 247 204 = some (.aload_n 1, 1)) rfl ⟨by decide, by decide⟩ ?_
  refine argA (j := 1) (by decide +kernel) (by decide) hi ?_
  refine argA (j := 2) (by decide +kernel) (by decide) hi ?_
  refine argA (j := 3) (by decide +kernel) (by decide) hi ?_
  refine Fr.callI (y2 := 83) (na := 4) (as := [rf 1, it (xs (i + 1).toNat), it (xs (i + 2).toNat), it (xs (i + 3).toNat)]) (rest := []) (by decide +kernel : zi 247 220 = some (.invokevirtual 13, 3)) rfl (by decide +kernel) (by decide +kernel) rfl rfl (zok_V rfl (by decide) (by decide +kernel) (by decide +kernel) (zrecv_c (c := 0) (by decide) (by decide +kernel)) rfl (Nat.le_of_ble_eq_true rfl)) (J83 (by omega) hI) (fun r1 s1 h1 => ?_)
  refine Fr.aldn (c := 73) (by decide +kernel : zi 247 223 = some (.aload_n 2, 1)) rfl ⟨by decide, by decide⟩ ?_
  refine argA (j := 1) (by decide +kernel) (by decide) hi ?_
  refine argA (j := 2) (by decide +kernel) (by decide) hi ?_
  refine argA (j := 3) (by decide +kernel) (by decide) hi ?_
  refine Fr.callI (y2 := 136) (na := 4) (as := [rf 73, it (xs (i + 1).toNat), it (xs (i + 2).toNat), it (xs (i + 3).toNat)]) (rest := [it r1]) (by decide +kernel : zi 247 239 = some (.invokevirtual 17, 3)) rfl (by decide +kernel) (by decide +kernel) rfl rfl (zok_V rfl (by decide) (by decide +kernel) (by decide +kernel) (zrecv_c (c := 72) (by decide) (by decide +kernel)) rfl (Nat.le_of_ble_eq_true rfl)) h1 (fun r2 s2 h2 => ?_)
  obtain ⟨rfl, hI2⟩ := h2
  exact Fr.if2 (q := 1424) (by decide +kernel : zi 247 242 = some (.if_icmp .eq 1182, 3)) (by decide +kernel) (fun _ => kk s2 hI2) (fun g => absurd rfl g)
theorem w240_1 {i : Int} (hd : 58 ≤ d) (hx : ∀ j, zR (xs j)) (hi : 0 ≤ i ∧ i + 7 ≤ (L : Int) ∧ L ≤ 3584) (hI : Inv s) (kk : ∀ s2, Inv s2 → Fr xs L T0 106 d 247 1424 [some (rf 100006), some (rf 1), some (rf 73), some (it i)] [] s2 (qi fun r _ => r = 1)) : Fr xs L T0 106 d 247 247 [some (rf 100006), some (rf 1), some (rf 73), some (it i)] [] s (qi fun r _ => r = 1) := by
  refine Fr.aldn (c := 1) (by decide +kernel : zi 247 247 = some (.aload_n 1, 1)) rfl ⟨by decide, by decide⟩ ?_
  refine argA (j := 1) (by decide +kernel) (by decide) hi ?_
  refine Fr.callI (y2 := 84) (na := 2) (as := [rf 1, it (xs (i + 1).toNat)]) (rest := []) (by decide +kernel : zi 247 253 = some (.invokevirtual 18, 3)) rfl (by decide +kernel) (by decide +kernel) rfl rfl (zok_V rfl (by decide) (by decide +kernel) (by decide +kernel) (zrecv_c (c := 0) (by decide) (by decide +kernel)) rfl (Nat.le_of_ble_eq_true rfl)) (J84 (by omega) hI) (fun r1 s1 h1 => ?_)
  refine Fr.aldn (c := 73) (by decide +kernel : zi 247 256 = some (.aload_n 2, 1)) rfl ⟨by decide, by decide⟩ ?_
  refine argA (j := 1) (by decide +kernel) (by decide) hi ?_
  refine Fr.callI (y2 := 137) (na := 2) (as := [rf 73, it (xs (i + 1).toNat)]) (rest := [it r1]) (by decide +kernel : zi 247 262 = some (.invokevirtual 22, 3)) rfl (by decide +kernel) (by decide +kernel) rfl rfl (zok_V rfl (by decide) (by decide +kernel) (by decide +kernel) (zrecv_c (c := 72) (by decide) (by decide +kernel)) rfl (Nat.le_of_ble_eq_true rfl)) h1 (fun r2 s2 h2 => ?_)
  obtain ⟨rfl, hI2⟩ := h2
  exact Fr.if2 (q := 1424) (by decide +kernel : zi 247 265 = some (.if_icmp .eq 1159, 3)) (by decide +kernel) (fun _ => kk s2 hI2) (fun g => absurd rfl g)
theorem w240_2 {i : Int} (hd : 58 ≤ d) (hx : ∀ j, zR (xs j)) (hi : 0 ≤ i ∧ i + 7 ≤ (L : Int) ∧ L ≤ 3584) (hI : Inv s) (kk : ∀ s2, Inv s2 → Fr xs L T0 106 d 247 1424 [some (rf 100006), some (rf 1), some (rf 73), some (it i)] [] s2 (qi fun r _ => r = 1)) : Fr xs L T0 106 d 247 270 [some (rf 100006), some (rf 1), some (rf 73), some (it i)] [] s (qi fun r _ => r = 1) := by
  refine Fr.aldn (c := 1) (by decide +kernel : zi 247 270 = some (.aload_n 1, 1)) rfl ⟨by decide, by decide⟩ ?_
  refine argA (j := 1) (by decide +kernel) (by decide) hi ?_
  refine Fr.callI (y2 := 85) (na := 2) (as := [rf 1, it (xs (i + 1).toNat)]) (rest := []) (by decide +kernel : zi 247 276 = some (.invokevirtual 23, 3)) rfl (by decide +kernel) (by decide +kernel) rfl rfl (zok_V rfl (by decide) (by decide +kernel) (by decide +kernel) (zrecv_c (c := 0) (by decide) (by decide +kernel)) rfl (Nat.le_of_ble_eq_true rfl)) (J85 (by omega) hI) (fun r1 s1 h1 => ?_)
  refine Fr.aldn (c := 73) (by decide +kernel : zi 247 279 = some (.aload_n 2, 1)) rfl ⟨by decide, by decide⟩ ?_
  refine argA (j := 1) (by decide +kernel) (by decide) hi ?_
  refine Fr.callI (y2 := 139) (na := 2) (as := [rf 73, it (xs (i + 1).toNat)]) (rest := [it r1]) (by decide +kernel : zi 247 285 = some (.invokevirtual 26, 3)) rfl (by decide +kernel) (by decide +kernel) rfl rfl (zok_V rfl (by decide) (by decide +kernel) (by decide +kernel) (zrecv_c (c := 72) (by decide) (by decide +kernel)) rfl (Nat.le_of_ble_eq_true rfl)) h1 (fun r2 s2 h2 => ?_)
  obtain ⟨rfl, hI2⟩ := h2
  exact Fr.if2 (q := 1424) (by decide +kernel : zi 247 288 = some (.if_icmp .eq 1136, 3)) (by decide +kernel) (fun _ => kk s2 hI2) (fun g => absurd rfl g)
theorem w240_3 {i : Int} (hd : 58 ≤ d) (hx : ∀ j, zR (xs j)) (hi : 0 ≤ i ∧ i + 7 ≤ (L : Int) ∧ L ≤ 3584) (hI : Inv s) (kk : ∀ s2, Inv s2 → Fr xs L T0 106 d 247 1424 [some (rf 100006), some (rf 1), some (rf 73), some (it i)] [] s2 (qi fun r _ => r = 1)) : Fr xs L T0 106 d 247 293 [some (rf 100006), some (rf 1), some (rf 73), some (it i)] [] s (qi fun r _ => r = 1) := by
  refine Fr.aldn (c := 1) (by decide +kernel : zi 247 293 = some (.aload_n 1, 1)) rfl ⟨by decide, by decide⟩ ?_
  refine argA (j := 1) (by decide +kernel) (by decide) hi ?_
  refine argA (j := 2) (by decide +kernel) (by decide) hi ?_
  refine argA (j := 3) (by decide +kernel) (by decide) hi ?_
  refine argA (j := 4) (by decide +kernel) (by decide) hi ?_
  refine argA (j := 5) (by decide +kernel) (by decide) hi ?_
  refine argB (by decide +kernel) hi ?_
  refine Fr.callI (y2 := 86) (na := 7) (as := [rf 1, it (xs (i + 1).toNat), it (xs (i + 2).toNat), it (xs (i + 3).toNat), it (xs (i + 4).toNat), it (xs (i + 5).toNat), it (xs (i + 6).toNat)]) (rest := []) (by decide +kernel : zi 247 325 = some (.invokevirtual 27, 3)) rfl (by decide +kernel) (by decide +kernel) rfl rfl (zok_V rfl (by decide) (by decide +kernel) (by decide +kernel) (zrecv_c (c := 0) (by decide) (by decide +kernel)) rfl (Nat.le_of_ble_eq_true rfl)) (J86 (by omega) hI) (fun r1 s1 h1 => ?_)
  refine Fr.aldn (c := 73) (by decide +kernel : zi 247 328 = some (.aload_n 2, 1)) rfl ⟨by decide, by decide⟩ ?_
  refine argA (j := 1) (by decide +kernel) (by decide) hi ?_
  refine argA (j := 2) (by decide +kernel) (by decide) hi ?_
  refine argA (j := 3) (by decide +kernel) (by decide) hi ?_
  refine argA (j := 4) (by decide +kernel) (by decide) hi ?_
  refine argA (j := 5) (by decide +kernel) (by decide) hi ?_
  refine argB (by decide +kernel) hi ?_
  refine Fr.callI (y2 := 142) (na := 7) (as := [rf 73, it (xs (i + 1).toNat), it (xs (i + 2).toNat), it (xs (i + 3).toNat), it (xs (i + 4).toNat), it (xs (i + 5).toNat), it (xs (i + 6).toNat)]) (rest := [it r1]) (by decide +kernel : zi 247 360 = some (.invokevirtual 31, 3)) rfl (by decide +kernel) (by decide +kernel) rfl rfl (zok_V rfl (by decide) (by decide +kernel) (by decide +kernel) (zrecv_c (c := 72) (by decide) (by decide +kernel)) rfl (Nat.le_of_ble_eq_true rfl)) h1 (fun r2 s2 h2 => ?_)
  obtain ⟨rfl, hI2⟩ := h2
  exact Fr.if2 (q := 1424) (by decide +kernel : zi 247 363 = some (.if_icmp .eq 1061, 3)) (by decide +kernel) (fun _ => kk s2 hI2) (fun g => absurd rfl g)
theorem w240_4 {i : Int} (hd : 58 ≤ d) (hx : ∀ j, zR (xs j)) (hi : 0 ≤ i ∧ i + 7 ≤ (L : Int) ∧ L ≤ 3584) (hI : Inv s) (kk : ∀ s2, Inv s2 → Fr xs L T0 106 d 247 1424 [some (rf 100006), some (rf 1), some (rf 73), some (it i)] [] s2 (qi fun r _ => r = 1)) : Fr xs L T0 106 d 247 368 [some (rf 100006), some (rf 1), some (rf 73), some (it i)] [] s (qi fun r _ => r = 1) := by
  refine Fr.aldn (c := 1) (by decide +kernel : zi 247 368 = some (.aload_n 1, 1)) rfl ⟨by decide, by decide⟩ ?_
  refine Fr.callI (y2 := 87) (na := 1) (as := [rf 1]) (rest := []) (by decide +kernel : zi 247 369 = some (.invokevirtual 32, 3)) rfl (by decide +kernel) (by decide +kernel) rfl rfl (zok_V rfl (by decide) (by decide +kernel) (by decide +kernel) (zrecv_c (c := 0) (by decide) (by decide +kernel)) rfl (Nat.le_of_ble_eq_true rfl)) (J87 (by omega) hI) (fun r1 s1 h1 => ?_)
  refine Fr.aldn (c := 73) (by decide +kernel : zi 247 372 = some (.aload_n 2, 1)) rfl ⟨by decide, by decide⟩ ?_
  refine Fr.callI (y2 := 159) (na := 1) (as := [rf 73]) (rest := [it r1]) (by decide +kernel : zi 247 373 = some (.invokevirtual 36, 3)) rfl (by decide +kernel) (by decide +kernel) rfl rfl (zok_V rfl (by decide) (by decide +kernel) (by decide +kernel) (zrecv_c (c := 72) (by decide) (by decide +kernel)) rfl (Nat.le_of_ble_eq_true rfl)) h1 (fun r2 s2 h2 => ?_)
  obtain ⟨rfl, hI2⟩ := h2
  exact Fr.if2 (q := 1424) (by decide +kernel : zi 247 376 = some (.if_icmp .eq 1048, 3)) (by decide +kernel) (fun _ => kk s2 hI2) (fun g => absurd rfl g)
theorem w240_5 {i : Int} (hd : 58 ≤ d) (hx : ∀ j, zR (xs j)) (hi : 0 ≤ i ∧ i + 7 ≤ (L : Int) ∧ L ≤ 3584) (hI : Inv s) (kk : ∀ s2, Inv s2 → Fr xs L T0 106 d 247 1424 [some (rf 100006), some (rf 1), some (rf 73), some (it i)] [] s2 (qi fun r _ => r = 1)) : Fr xs L T0 106 d 247 381 [some (rf 100006), some (rf 1), some (rf 73), some (it i)] [] s (qi fun r _ => r = 1) := by
  refine Fr.aldn (c := 1) (by decide +kernel : zi 247 381 = some (.aload_n 1, 1)) rfl ⟨by decide, by decide⟩ ?_
  refine argA (j := 1) (by decide +kernel) (by decide) hi ?_
  refine Fr.callI (y2 := 88) (na := 2) (as := [rf 1, it (xs (i + 1).toNat)]) (rest := []) (by decide +kernel : zi 247 387 = some (.invokevirtual 37, 3)) rfl (by decide +kernel) (by decide +kernel) rfl rfl (zok_V rfl (by decide) (by decide +kernel) (by decide +kernel) (zrecv_c (c := 0) (by decide) (by decide +kernel)) rfl (Nat.le_of_ble_eq_true rfl)) (J88 (by omega) hI) (fun r1 s1 h1 => ?_)
  refine Fr.aldn (c := 73) (by decide +kernel : zi 247 390 = some (.aload_n 2, 1)) rfl ⟨by decide, by decide⟩ ?_
  refine argA (j := 1) (by decide +kernel) (by decide) hi ?_
  refine Fr.callI (y2 := 160) (na := 2) (as := [rf 73, it (xs (i + 1).toNat)]) (rest := [it r1]) (by decide +kernel : zi 247 396 = some (.invokevirtual 40, 3)) rfl (by decide +kernel) (by decide +kernel) rfl rfl (zok_V rfl (by decide) (by decide +kernel) (by decide +kernel) (zrecv_c (c := 72) (by decide) (by decide +kernel)) rfl (Nat.le_of_ble_eq_true rfl)) h1 (fun r2 s2 h2 => ?_)
  obtain ⟨rfl, hI2⟩ := h2
  exact Fr.if2 (q := 1424) (by decide +kernel : zi 247 399 = some (.if_icmp .eq 1025, 3)) (by decide +kernel) (fun _ => kk s2 hI2) (fun g => absurd rfl g)
theorem w240_6 {i : Int} (hd : 58 ≤ d) (hx : ∀ j, zR (xs j)) (hi : 0 ≤ i ∧ i + 7 ≤ (L : Int) ∧ L ≤ 3584) (hI : Inv s) (kk : ∀ s2, Inv s2 → Fr xs L T0 106 d 247 1424 [some (rf 100006), some (rf 1), some (rf 73), some (it i)] [] s2 (qi fun r _ => r = 1)) : Fr xs L T0 106 d 247 404 [some (rf 100006), some (rf 1), some (rf 73), some (it i)] [] s (qi fun r _ => r = 1) := by
  refine Fr.aldn (c := 1) (by decide +kernel : zi 247 404 = some (.aload_n 1, 1)) rfl ⟨by decide, by decide⟩ ?_
  refine argA (j := 1) (by decide +kernel) (by decide) hi ?_
  refine argA (j := 2) (by decide +kernel) (by decide) hi ?_
  refine argA (j := 3) (by decide +kernel) (by decide) hi ?_
  refine argA (j := 4) (by decide +kernel) (by decide) hi ?_
  refine Fr.callI (y2 := 89) (na := 5) (as := [rf 1, it (xs (i + 1).toNat), it (xs (i + 2).toNat), it (xs (i + 3).toNat), it (xs (i + 4).toNat)]) (rest := []) (by decide +kernel : zi 247 425 = some (.invokevirtual 41, 3)) rfl (by decide +kernel) (by decide +kernel) rfl rfl (zok_V rfl (by decide) (by decide +kernel) (by decide +kernel) (zrecv_c (c := 0) (by decide) (by decide +kernel)) rfl (Nat.le_of_ble_eq_true rfl)) (J89 (by omega) hI) (fun r1 s1 h1 => ?_)
  refine Fr.aldn (c := 73) (by decide +kernel : zi 247 428 = some (.aload_n 2, 1)) rfl ⟨by decide, by decide⟩ ?_
  refine argA (j := 1) (by decide +kernel) (by decide) hi ?_
  refine argA (j := 2) (by decide +kernel) (by decide) hi ?_
  refine argA (j := 3) (by decide +kernel) (by decide) hi ?_
  refine argA (j := 4) (by decide +kernel) (by decide) hi ?_
  refine Fr.callI (y2 := 167) (na := 5) (as := [rf 73, it (xs (i + 1).toNat), it (xs (i + 2).toNat), it (xs (i + 3).toNat), it (xs (i + 4).toNat)]) (rest := [it r1]) (by decide +kernel : zi 247 449 = some (.invokevirtual 45, 3)) rfl (by decide +kernel) (by decide +kernel) rfl rfl (zok_V rfl (by decide) (by decide +kernel) (by decide +kernel) (zrecv_c (c := 72) (by decide) (by decide +kernel)) rfl (Nat.le_of_ble_eq_true rfl)) h1 (fun r2 s2 h2 => ?_)
  obtain ⟨rfl, hI2⟩ := h2
  exact Fr.if2 (q := 1424) (by decide +kernel : zi 247 452 = some (.if_icmp .eq 972, 3)) (by decide +kernel) (fun _ => kk s2 hI2) (fun g => absurd rfl g)
theorem w240_7 {i : Int} (hd : 58 ≤ d) (hx : ∀ j, zR (xs j)) (hi : 0 ≤ i ∧ i + 7 ≤ (L : Int) ∧ L ≤ 3584) (hI : Inv s) (kk : ∀ s2, Inv s2 → Fr xs L T0 106 d 247 1424 [some (rf 100006), some (rf 1), some (rf 73), some (it i)] [] s2 (qi fun r _ => r = 1)) : Fr xs L T0 106 d 247 457 [some (rf 100006), some (rf 1), some (rf 73), some (it i)] [] s (qi fun r _ => r = 1) := by
  refine Fr.aldn (c := 1) (by decide +kernel : zi 247 457 = some (.aload_n 1, 1)) rfl ⟨by decide, by decide⟩ ?_
  refine argA (j := 1) (by decide +kernel) (by decide) hi ?_
  refine argA (j := 2) (by decide +kernel) (by decide) hi ?_
  refine argA (j := 3) (by decide +kernel) (by decide) hi ?_
  refine argA (j := 4) (by decide +kernel) (by decide) hi ?_
  refine Fr.callI (y2 := 90) (na := 5) (as := [rf 1, it (xs (i + 1).toNat), it (xs (i + 2).toNat), it (xs (i + 3).toNat), it (xs (i + 4).toNat)]) (rest := []) (by decide +kernel : zi 247 478 = some (.invokevirtual 46, 3)) rfl (by decide +kernel) (by decide +kernel) rfl rfl (zok_V rfl (by decide) (by decide +kernel) (by decide +kernel) (zrecv_c (c := 0) (by decide) (by decide +kernel)) rfl (Nat.le_of_ble_eq_true rfl)) (J90 (by omega) (hx _).2 hI) (fun r1 s1 h1 => ?_)
  refine Fr.aldn (c := 73) (by decide +kernel : zi 247 481 = some (.aload_n 2, 1)) rfl ⟨by decide, by decide⟩ ?_
  refine argA (j := 1) (by decide +kernel) (by decide) hi ?_
  refine argA (j := 2) (by decide +kernel) (by decide) hi ?_
  refine argA (j := 3) (by decide +kernel) (by decide) hi ?_
  refine argA (j := 4) (by decide +kernel) (by decide) hi ?_
  refine Fr.callI (y2 := 168) (na := 5) (as := [rf 73, it (xs (i + 1).toNat), it (xs (i + 2).toNat), it (xs (i + 3).toNat), it (xs (i + 4).toNat)]) (rest := [it r1]) (by decide +kernel : zi 247 502 = some (.invokevirtual 49, 3)) rfl (by decide +kernel) (by decide +kernel) rfl rfl (zok_V rfl (by decide) (by decide +kernel) (by decide +kernel) (zrecv_c (c := 72) (by decide) (by decide +kernel)) rfl (Nat.le_of_ble_eq_true rfl)) h1 (fun r2 s2 h2 => ?_)
  obtain ⟨rfl, hI2⟩ := h2
  exact Fr.if2 (q := 1424) (by decide +kernel : zi 247 505 = some (.if_icmp .eq 919, 3)) (by decide +kernel) (fun _ => kk s2 hI2) (fun g => absurd rfl g)
theorem w240_8 {i : Int} (hd : 58 ≤ d) (hx : ∀ j, zR (xs j)) (hi : 0 ≤ i ∧ i + 7 ≤ (L : Int) ∧ L ≤ 3584) (hI : Inv s) (kk : ∀ s2, Inv s2 → Fr xs L T0 106 d 247 1424 [some (rf 100006), some (rf 1), some (rf 73), some (it i)] [] s2 (qi fun r _ => r = 1)) : Fr xs L T0 106 d 247 510 [some (rf 100006), some (rf 1), some (rf 73), some (it i)] [] s (qi fun r _ => r = 1) := by
  refine Fr.aldn (c := 1) (by decide +kernel : zi 247 510 = some (.aload_n 1, 1)) rfl ⟨by decide, by decide⟩ ?_
  refine argA (j := 1) (by decide +kernel) (by decide) hi ?_
  refine argA (j := 2) (by decide +kernel) (by decide) hi ?_
  refine argA (j := 3) (by decide +kernel) (by decide) hi ?_
  refine Fr.callI (y2 := 91) (na := 4) (as := [rf 1, it (xs (i + 1).toNat), it (xs (i + 2).toNat), it (xs (i + 3).toNat)]) (rest := []) (by decide +kernel : zi 247 526 = some (.invokevirtual 50, 3)) rfl (by decide +kernel) (by decide +kernel) rfl rfl (zok_V rfl (by decide) (by decide +kernel) (by decide +kernel) (zrecv_c (c := 0) (by decide) (by decide +kernel)) rfl (Nat.le_of_ble_eq_true rfl)) (J91 (by omega) hI) (fun r1 s1 h1 => ?_)
  refine Fr.aldn (c := 73) (by decide +kernel : zi 247 529 = some (.aload_n 2, 1)) rfl ⟨by decide, by decide⟩ ?_
  refine argA (j := 1) (by decide +kernel) (by decide) hi ?_
  refine argA (j := 2) (by decide +kernel) (by decide) hi ?_
  refine argA (j := 3) (by decide +kernel) (by decide) hi ?_
  refine Fr.callI (y2 := 169) (na := 4) (as := [rf 73, it (xs (i + 1).toNat), it (xs (i + 2).toNat), it (xs (i + 3).toNat)]) (rest := [it r1]) (by decide +kernel : zi 247 545 = some (.invokevirtual 53, 3)) rfl (by decide +kernel) (by decide +kernel) rfl rfl (zok_V rfl (by decide) (by decide +kernel) (by decide +kernel) (zrecv_c (c := 72) (by decide) (by decide +kernel)) rfl (Nat.le_of_ble_eq_true rfl)) h1 (fun r2 s2 h2 => ?_)
  obtain ⟨rfl, hI2⟩ := h2
  exact Fr.if2 (q := 1424) (by decide +kernel : zi 247 548 = some (.if_icmp .eq 876, 3)) (by decide +kernel) (fun _ => kk s2 hI2) (fun g => absurd rfl g)
theorem w240_9 {i : Int} (hd : 58 ≤ d) (hx : ∀ j, zR (xs j)) (hi : 0 ≤ i ∧ i + 7 ≤ (L : Int) ∧ L ≤ 3584) (hI : Inv s) (kk : ∀ s2, Inv s2 → Fr xs L T0 106 d 247 1424 [some (rf 100006), some (rf 1), some (rf 73), some (it i)] [] s2 (qi fun r _ => r = 1)) : Fr xs L T0 106 d 247 553 [some (rf 100006), some (rf 1), some (rf 73), some (it i)] [] s (qi fun r _ => r = 1) := by
  refine Fr.aldn (c := 1) (by decide +kernel : zi 247 553 = some (.aload_n 1, 1)) rfl ⟨by decide, by decide⟩ ?_
  refine argA (j := 1) (by decide +kernel) (by decide) hi ?_
  refine argA (j := 2) (by decide +kernel) (by decide) hi ?_
  refine Fr.callI (y2 := 92) (na := 3) (as := [rf 1, it (xs (i + 1).toNat), it (xs (i + 2).toNat)]) (rest := []) (by decide +kernel : zi 247 564 = some (.invokevirtual 54, 3)) rfl (by decide +kernel) (by decide +kernel) rfl rfl (zok_V rfl (by decide) (by decide +kernel) (by decide +kernel) (zrecv_c (c := 0) (by decide) (by decide +kernel)) rfl (Nat.le_of_ble_eq_true rfl)) (J92 (by omega) hI) (fun r1 s1 h1 => ?_)
  refine Fr.aldn (c := 73) (by decide +kernel : zi 247 567 = some (.aload_n 2, 1)) rfl ⟨by decide, by decide⟩ ?_
  refine argA (j := 1) (by decide +kernel) (by decide) hi ?_
  refine argA (j := 2) (by decide +kernel) (by decide) hi ?_
  refine Fr.callI (y2 := 170) (na := 3) (as := [rf 73, it (xs (i + 1).toNat), it (xs (i + 2).toNat)]) (rest := [it r1]) (by decide +kernel : zi 247 578 = some (.invokevirtual 58, 3)) rfl (by decide +kernel) (by decide +kernel) rfl rfl (zok_V rfl (by decide) (by decide +kernel) (by decide +kernel) (zrecv_c (c := 72) (by decide) (by decide +kernel)) rfl (Nat.le_of_ble_eq_true rfl)) h1 (fun r2 s2 h2 => ?_)
  obtain ⟨rfl, hI2⟩ := h2
  exact Fr.if2 (q := 1424) (by decide +kernel : zi 247 581 = some (.if_icmp .eq 843, 3)) (by decide +kernel) (fun _ => kk s2 hI2) (fun g => absurd rfl g)
theorem w240_10 {i : Int} (hd : 58 ≤ d) (hx : ∀ j, zR (xs j)) (hi : 0 ≤ i ∧ i + 7 ≤ (L : Int) ∧ L ≤ 3584) (hI : Inv s) (kk : ∀ s2, Inv s2 → Fr xs L T0 106 d 247 1424 [some (rf 100006), some (rf 1), some (rf 73), some (it i)] [] s2 (qi fun r _ => r = 1)) : Fr xs L T0 106 d 247 586 [some (rf 100006), some (rf 1), some (rf 73), some (it i)] [] s (qi fun r _ => r = 1) := by
  refine Fr.aldn (c := 1) (by decide +kernel : zi 247 586 = some (.aload_n 1, 1)) rfl ⟨by decide, by decide⟩ ?_
  refine argA (j := 1) (by decide +kernel) (by decide) hi ?_
  refine argA (j := 2) (by decide +kernel) (by decide) hi ?_
  refine Fr.callI (y2 := 93) (na := 3) (as := [rf 1, it (xs (i + 1).toNat), it (xs (i + 2).toNat)]) (rest := []) (by decide +kernel : zi 247 597 = some (.invokevirtual 59, 3)) rfl (by decide +kernel) (by decide +kernel) rfl rfl (zok_V rfl (by decide) (by decide +kernel) (by decide +kernel) (zrecv_c (c := 0) (by decide) (by decide +kernel)) rfl (Nat.le_of_ble_eq_true rfl)) (J93 (by omega) hI) (fun r1 s1 h1 => ?_)
  refine Fr.aldn (c := 73) (by decide +kernel : zi 247 600 = some (.aload_n 2, 1)) rfl ⟨by decide, by decide⟩ ?_
  refine argA (j := 1) (by decide +kernel) (by decide) hi ?_
  refine argA (j := 2) (by decide +kernel) (by decide) hi ?_
  refine Fr.callI (y2 := 171) (na := 3) (as := [rf 73, it (xs (i + 1).toNat), it (xs (i + 2).toNat)]) (rest := [it r1]) (by decide +kernel : zi 247 611 = some (.invokevirtual 62, 3)) rfl (by decide +kernel) (by decide +kernel) rfl rfl (zok_V rfl (by decide) (by decide +kernel) (by decide +kernel) (zrecv_c (c := 72) (by decide) (by decide +kernel)) rfl (Nat.le_of_ble_eq_true rfl)) h1 (fun r2 s2 h2 => ?_)
  obtain ⟨rfl, hI2⟩ := h2
  exact Fr.if2 (q := 1424) (by decide +kernel : zi 247 614 = some (.if_icmp .eq 810, 3)) (by decide +kernel) (fun _ => kk s2 hI2) (fun g => absurd rfl g)
theorem w240_11 {i : Int} (hd : 58 ≤ d) (hx : ∀ j, zR (xs j)) (hi : 0 ≤ i ∧ i + 7 ≤ (L : Int) ∧ L ≤ 3584) (hI : Inv s) (kk : ∀ s2, Inv s2 → Fr xs L T0 106 d 247 1424 [some (rf 100006), some (rf 1), some (rf 73), some (it i)] [] s2 (qi fun r _ => r = 1)) : Fr xs L T0 106 d 247 619 [some (rf 100006), some (rf 1), some (rf 73), some (it i)] [] s (qi fun r _ => r = 1) := by
  refine Fr.aldn (c := 1) (by decide +kernel : zi 247 619 = some (.aload_n 1, 1)) rfl ⟨by decide, by decide⟩ ?_
  refine argA (j := 1) (by decide +kernel) (by decide) hi ?_
  refine argA (j := 2) (by decide +kernel) (by decide) hi ?_
  refine Fr.callI (y2 := 94) (na := 3) (as := [rf 1, it (xs (i + 1).toNat), it (xs (i + 2).toNat)]) (rest := []) (by decide +kernel : zi 247 630 = some (.invokevirtual 63, 3)) rfl (by decide +kernel) (by decide +kernel) rfl rfl (zok_V rfl (by decide) (by decide +kernel) (by decide +kernel) (zrecv_c (c := 0) (by decide) (by decide +kernel)) rfl (Nat.le_of_ble_eq_true rfl)) (J94 (by omega) hI) (fun r1 s1 h1 => ?_)
  refine Fr.aldn (c := 73) (by decide +kernel : zi 247 633 = some (.aload_n 2, 1)) rfl ⟨by decide, by decide⟩ ?_
  refine argA (j := 1) (by decide +kernel) (by decide) hi ?_
  refine argA (j := 2) (by decide +kernel) (by decide) hi ?_
  refine Fr.callI (y2 := 178) (na := 3) (as := [rf 73, it (xs (i + 1).toNat), it (xs (i + 2).toNat)]) (rest := [it r1]) (by decide +kernel : zi 247 644 = some (.invokevirtual 66, 3)) rfl (by decide +kernel) (by decide +kernel) rfl rfl (zok_V rfl (by decide) (by decide +kernel) (by decide +kernel) (zrecv_c (c := 72) (by decide) (by decide +kernel)) rfl (Nat.le_of_ble_eq_true rfl)) h1 (fun r2 s2 h2 => ?_)
  obtain ⟨rfl, hI2⟩ := h2
  exact Fr.if2 (q := 1424) (by decide +kernel : zi 247 647 = some (.if_icmp .eq 777, 3)) (by decide +kernel) (fun _ => kk s2 hI2) (fun g => absurd rfl g)
theorem w240_12 {i : Int} (hd : 58 ≤ d) (hx : ∀ j, zR (xs j)) (hi : 0 ≤ i ∧ i + 7 ≤ (L : Int) ∧ L ≤ 3584) (hI : Inv s) (kk : ∀ s2, Inv s2 → Fr xs L T0 106 d 247 1424 [some (rf 100006), some (rf 1), some (rf 73), some (it i)] [] s2 (qi fun r _ => r = 1)) : Fr xs L T0 106 d 247 652 [some (rf 100006), some (rf 1), some (rf 73), some (it i)] [] s (qi fun r _ => r = 1) := by
  refine Fr.aldn (c := 1) (by decide +kernel : zi 247 652 = some (.aload_n 1, 1)) rfl ⟨by decide, by decide⟩ ?_
  refine Fr.callI (y2 := 95) (na := 1) (as := [rf 1]) (rest := []) (by decide +kernel : zi 247 653 = some (.invokevirtual 67, 3)) rfl (by decide +kernel) (by decide +kernel) rfl rfl (zok_V rfl (by decide) (by decide +kernel) (by decide +kernel) (zrecv_c (c := 0) (by decide) (by decide +kernel)) rfl (Nat.le_of_ble_eq_true rfl)) (J95 (by omega) hI) (fun r1 s1 h1 => ?_)
  refine Fr.aldn (c := 73) (by decide +kernel : zi 247 656 = some (.aload_n 2, 1)) rfl ⟨by decide, by decide⟩ ?_
  refine Fr.callI (y2 := 179) (na := 1) (as := [rf 73]) (rest := [it r1]) (by decide +kernel : zi 247 657 = some (.invokevirtual 70, 3)) rfl (by decide +kernel) (by decide +kernel) rfl rfl (zok_V rfl (by decide) (by decide +kernel) (by decide +kernel) (zrecv_c (c := 72) (by decide) (by decide +kernel)) rfl (Nat.le_of_ble_eq_true rfl)) h1 (fun r2 s2 h2 => ?_)
  obtain ⟨rfl, hI2⟩ := h2
  exact Fr.if2 (q := 1424) (by decide +kernel : zi 247 660 = some (.if_icmp .eq 764, 3)) (by decide +kernel) (fun _ => kk s2 hI2) (fun g => absurd rfl g)
theorem w240_13 {i : Int} (hd : 58 ≤ d) (hx : ∀ j, zR (xs j)) (hi : 0 ≤ i ∧ i + 7 ≤ (L : Int) ∧ L ≤ 3584) (hI : Inv s) (kk : ∀ s2, Inv s2 → Fr xs L T0 106 d 247 1424 [some (rf 100006), some (rf 1), some (rf 73), some (it i)] [] s2 (qi fun r _ => r = 1)) : Fr xs L T0 106 d 247 665 [some (rf 100006), some (rf 1), some (rf 73), some (it i)] [] s (qi fun r _ => r = 1) := by
  refine Fr.aldn (c := 1) (by decide +kernel : zi 247 665 = some (.aload_n 1, 1)) rfl ⟨by decide, by decide⟩ ?_
  refine argA (j := 1) (by decide +kernel) (by decide) hi ?_
  refine argA (j := 2) (by decide +kernel) (by decide) hi ?_
  refine argA (j := 3) (by decide +kernel) (by decide) hi ?_
  refine Fr.callI (y2 := 96) (na := 4) (as := [rf 1, it (xs (i + 1).toNat), it (xs (i + 2).toNat), it (xs (i + 3).toNat)]) (rest := []) (by decide +kernel : zi 247 681 = some (.invokevirtual 71, 3)) rfl (by decide +kernel) (by decide +kernel) rfl rfl (zok_V rfl (by decide) (by decide +kernel) (by decide +kernel) (zrecv_c (c := 0) (by decide) (by decide +kernel)) rfl (Nat.le_of_ble_eq_true rfl)) (J96 (by omega) hI) (fun r1 s1 h1 => ?_)
  refine Fr.aldn (c := 73) (by decide +kernel : zi 247 684 = some (.aload_n 2, 1)) rfl ⟨by decide, by decide⟩ ?_
  refine argA (j := 1) (by decide +kernel) (by decide) hi ?_
  refine argA (j := 2) (by decide +kernel) (by decide) hi ?_
  refine argA (j := 3) (by decide +kernel) (by decide) hi ?_
  refine Fr.callI (y2 := 182) (na := 4) (as := [rf 73, it (xs (i + 1).toNat), it (xs (i + 2).toNat), it (xs (i + 3).toNat)]) (rest := [it r1]) (by decide +kernel : zi 247 700 = some (.invokevirtual 74, 3)) rfl (by decide +kernel) (by decide +kernel) rfl rfl (zok_V rfl (by decide) (by decide +kernel) (by decide +kernel) (zrecv_c (c := 72) (by decide) (by decide +kernel)) rfl (Nat.le_of_ble_eq_true rfl)) h1 (fun r2 s2 h2 => ?_)
  obtain ⟨rfl, hI2⟩ := h2
  exact Fr.if2 (q := 1424) (by decide +kernel : zi 247 703 = some (.if_icmp .eq 721, 3)) (by decide +kernel) (fun _ => kk s2 hI2) (fun g => absurd rfl g)
theorem w240_14 {i : Int} (hd : 58 ≤ d) (hx : ∀ j, zR (xs j)) (hi : 0 ≤ i ∧ i + 7 ≤ (L : Int) ∧ L ≤ 3584) (hI : Inv s) (kk : ∀ s2, Inv s2 → Fr xs L T0 106 d 247 1424 [some (rf 100006), some (rf 1), some (rf 73), some (it i)] [] s2 (qi fun r _ => r = 1)) : Fr xs L T0 106 d 247 708 [some (rf 100006), some (rf 1), some (rf 73), some (it i)] [] s (qi fun r _ => r = 1) := by
  refine Fr.aldn (c := 1) (by decide +kernel : zi 247 708 = some (.aload_n 1, 1)) rfl ⟨by decide, by decide⟩ ?_
  refine Fr.callI (y2 := 97) (na := 1) (as := [rf 1]) (rest := []) (by decide +kernel : zi 247 709 = some (.invokevirtual 75, 3)) rfl (by decide +kernel) (by decide +kernel) rfl rfl (zok_V rfl (by decide) (by decide +kernel) (by decide +kernel) (zrecv_c (c := 0) (by decide) (by decide +kernel)) rfl (Nat.le_of_ble_eq_true rfl)) (J97 (by omega) hI) (fun r1 s1 h1 => ?_)
  refine Fr.aldn (c := 73) (by decide +kernel : zi 247 712 = some (.aload_n 2, 1)) rfl ⟨by decide, by decide⟩ ?_
  refine Fr.callI (y2 := 183) (na := 1) (as := [rf 73]) (rest := [it r1]) (by decide +kernel : zi 247 713 = some (.invokevirtual 78, 3)) rfl (by decide +kernel) (by decide +kernel) rfl rfl (zok_V rfl (by decide) (by decide +kernel) (by decide +kernel) (zrecv_c (c := 72) (by decide) (by decide +kernel)) rfl (Nat.le_of_ble_eq_true rfl)) h1 (fun r2 s2 h2 => ?_)
  obtain ⟨rfl, hI2⟩ := h2
  exact Fr.if2 (q := 1424) (by decide +kernel : zi 247 716 = some (.if_icmp .eq 708, 3)) (by decide +kernel) (fun _ => kk s2 hI2) (fun g => absurd rfl g)
theorem w240_15 {i : Int} (hd : 58 ≤ d) (hx : ∀ j, zR (xs j)) (hi : 0 ≤ i ∧ i + 7 ≤ (L : Int) ∧ L ≤ 3584) (hI : Inv s) (kk : ∀ s2, Inv s2 → Fr xs L T0 106 d 247 1424 [some (rf 100006), some (rf 1), some (rf 73), some (it i)] [] s2 (qi fun r _ => r = 1)) : Fr xs L T0 106 d 247 721 [some (rf 100006), some (rf 1), some (rf 73), some (it i)] [] s (qi fun r _ => r = 1) := by
  refine Fr.aldn (c := 1) (by decide +kernel : zi 247 721 = some (.aload_n 1, 1)) rfl ⟨by decide, by decide⟩ ?_
  refine Fr.callI (y2 := 98) (na := 1) (as := [rf 1]) (rest := []) (by decide +kernel : zi 247 722 = some (.invokevirtual 79, 3)) rfl (by decide +kernel) (by decide +kernel) rfl rfl (zok_V rfl (by decide) (by decide +kernel) (by decide +kernel) (zrecv_c (c := 0) (by decide) (by decide +kernel)) rfl (Nat.le_of_ble_eq_true rfl)) (J98 (by omega) hI) (fun r1 s1 h1 => ?_)
  refine Fr.aldn (c := 73) (by decide +kernel : zi 247 725 = some (.aload_n 2, 1)) rfl ⟨by decide, by decide⟩ ?_
  refine Fr.callI (y2 := 187) (na := 1) (as := [rf 73]) (rest := [it r1]) (by decide +kernel : zi 247 726 = some (.invokevirtual 82, 3)) rfl (by decide +kernel) (by decide +kernel) rfl rfl (zok_V rfl (by decide) (by decide +kernel) (by decide +kernel) (zrecv_c (c := 72) (by decide) (by decide +kernel)) rfl (Nat.le_of_ble_eq_true rfl)) h1 (fun r2 s2 h2 => ?_)
  obtain ⟨rfl, hI2⟩ := h2
  exact Fr.if2 (q := 1424) (by decide +kernel : zi 247 729 = some (.if_icmp .eq 695, 3)) (by decide +kernel) (fun _ => kk s2 hI2) (fun g => absurd rfl g)
theorem w240_16 {i : Int} (hd : 58 ≤ d) (hx : ∀ j, zR (xs j)) (hi : 0 ≤ i ∧ i + 7 ≤ (L : Int) ∧ L ≤ 3584) (hI : Inv s) (kk : ∀ s2, Inv s2 → Fr xs L T0 106 d 247 1424 [some (rf 100006), some (rf 1), some (rf 73), some (it i)] [] s2 (qi fun r _ => r = 1)) : Fr xs L T0 106 d 247 734 [some (rf 100006), some (rf 1), some (rf 73), some (it i)] [] s (qi fun r _ => r = 1) := by
  refine Fr.aldn (c := 1) (by decide +kernel : zi 247 734 = some (.aload_n 1, 1)) rfl ⟨by decide, by decide⟩ ?_
  refine argA (j := 1) (by decide +kernel) (by decide) hi ?_
  refine argA (j := 2) (by decide +kernel) (by decide) hi ?_
  refine Fr.callI (y2 := 99) (na := 3) (as := [rf 1, it (xs (i + 1).toNat), it (xs (i + 2).toNat)]) (rest := []) (by decide +kernel : zi 247 745 = some (.invokevirtual 83, 3)) rfl (by decide +kernel) (by decide +kernel) rfl rfl (zok_V rfl (by decide) (by decide +kernel) (by decide +kernel) (zrecv_c (c := 0) (by decide) (by decide +kernel)) rfl (Nat.le_of_ble_eq_true rfl)) (J99 (by omega) hI) (fun r1 s1 h1 => ?_)
  refine Fr.aldn (c := 73) (by decide +kernel : zi 247 748 = some (.aload_n 2, 1)) rfl ⟨by decide, by decide⟩ ?_
  refine argA (j := 1) (by decide +kernel) (by decide) hi ?_
  refine argA (j := 2) (by decide +kernel) (by decide) hi ?_
  refine Fr.callI (y2 := 189) (na := 3) (as := [rf 73, it (xs (i + 1).toNat), it (xs (i + 2).toNat)]) (rest := [it r1]) (by decide +kernel : zi 247 759 = some (.invokevirtual 86, 3)) rfl (by decide +kernel) (by decide +kernel) rfl rfl (zok_V rfl (by decide) (by decide +kernel) (by decide +kernel) (zrecv_c (c := 72) (by decide) (by decide +kernel)) rfl (Nat.le_of_ble_eq_true rfl)) h1 (fun r2 s2 h2 => ?_)
  obtain ⟨rfl, hI2⟩ := h2
  exact Fr.if2 (q := 1424) (by decide +kernel : zi 247 762 = some (.if_icmp .eq 662, 3)) (by decide +kernel) (fun _ => kk s2 hI2) (fun g => absurd rfl g)
theorem w240_17 {i : Int} (hd : 58 ≤ d) (hx : ∀ j, zR (xs j)) (hi : 0 ≤ i ∧ i + 7 ≤ (L : Int) ∧ L ≤ 3584) (hI : Inv s) (kk : ∀ s2, Inv s2 → Fr xs L T0 106 d 247 1424 [some (rf 100006), some (rf 1), some (rf 73), some (it i)] [] s2 (qi fun r _ => r = 1)) : Fr xs L T0 106 d 247 767 [some (rf 100006), some (rf 1), some (rf 73), some (it i)] [] s (qi fun r _ => r = 1) := by
  refine Fr.aldn (c := 1) (by decide +kernel : zi 247 767 = some (.aload_n 1, 1)) rfl ⟨by decide, by decide⟩ ?_
  refine argA (j := 1) (by decide +kernel) (by decide) hi ?_
  refine argA (j := 2) (by decide +kernel) (by decide) hi ?_
  refine Fr.callI (y2 := 100) (na := 3) (as := [rf 1, it (xs (i + 1).toNat), it (xs (i + 2).toNat)]) (rest := []) (by decide +kernel : zi 247 778 = some (.invokevirtual 87, 3)) rfl (by decide +kernel) (by decide +kernel) rfl rfl (zok_V rfl (by decide) (by decide +kernel) (by decide +kernel) (zrecv_c (c := 0) (by decide) (by decide +kernel)) rfl (Nat.le_of_ble_eq_true rfl)) (J100 (by omega) hI) (fun r1 s1 h1 => ?_)
  refine Fr.aldn (c := 73) (by decide +kernel : zi 247 781 = some (.aload_n 2, 1)) rfl ⟨by decide, by decide⟩ ?_
  refine argA (j := 1) (by decide +kernel) (by decide) hi ?_
  refine argA (j := 2) (by decide +kernel) (by decide) hi ?_
  refine Fr.callI (y2 := 190) (na := 3) (as := [rf 73, it (xs (i + 1).toNat), it (xs (i + 2).toNat)]) (rest := [it r1]) (by decide +kernel : zi 247 792 = some (.invokevirtual 90, 3)) rfl (by decide +kernel) (by decide +kernel) rfl rfl (zok_V rfl (by decide) (by decide +kernel) (by decide +kernel) (zrecv_c (c := 72) (by decide) (by decide +kernel)) rfl (Nat.le_of_ble_eq_true rfl)) h1 (fun r2 s2 h2 => ?_)
  obtain ⟨rfl, hI2⟩ := h2
  exact Fr.if2 (q := 1424) (by decide +kernel : zi 247 795 = some (.if_icmp .eq 629, 3)) (by decide +kernel) (fun _ => kk s2 hI2) (fun g => absurd rfl g)
theorem w240_18 {i : Int} (hd : 58 ≤ d) (hx : ∀ j, zR (xs j)) (hi : 0 ≤ i ∧ i + 7 ≤ (L : Int) ∧ L ≤ 3584) (hI : Inv s) (kk : ∀ s2, Inv s2 → Fr xs L T0 106 d 247 1424 [some (rf 100006), some (rf 1), some (rf 73), some (it i)] [] s2 (qi fun r _ => r = 1)) : Fr xs L T0 106 d 247 800 [some (rf 100006), some (rf 1), some (rf 73), some (it i)] [] s (qi fun r _ => r = 1) := by
  refine Fr.aldn (c := 1) (by decide +kernel : zi 247 800 = some (.aload_n 1, 1)) rfl ⟨by decide, by decide⟩ ?_
  refine argA (j := 1) (by decide +kernel) (by decide) hi ?_
  refine Fr.callI (y2 := 101) (na := 2) (as := [rf 1, it (xs (i + 1).toNat)]) (rest := []) (by decide +kernel : zi 247 806 = some (.invokevirtual 91, 3)) rfl (by decide +kernel) (by decide +kernel) rfl rfl (zok_V rfl (by decide) (by decide +kernel) (by decide +kernel) (zrecv_c (c := 0) (by decide) (by decide +kernel)) rfl (Nat.le_of_ble_eq_true rfl)) (J101 (by omega) hI) (fun r1 s1 h1 => ?_)
  refine Fr.aldn (c := 73) (by decide +kernel : zi 247 809 = some (.aload_n 2, 1)) rfl ⟨by decide, by decide⟩ ?_
  refine argA (j := 1) (by decide +kernel) (by decide) hi ?_
  refine Fr.callI (y2 := 198) (na := 2) (as := [rf 73, it (xs (i + 1).toNat)]) (rest := [it r1]) (by decide +kernel : zi 247 815 = some (.invokevirtual 94, 3)) rfl (by decide +kernel) (by decide +kernel) rfl rfl (zok_V rfl (by decide) (by decide +kernel) (by decide +kernel) (zrecv_c (c := 72) (by decide) (by decide +kernel)) rfl (Nat.le_of_ble_eq_true rfl)) h1 (fun r2 s2 h2 => ?_)
  obtain ⟨rfl, hI2⟩ := h2
  exact Fr.if2 (q := 1424) (by decide +kernel : zi 247 818 = some (.if_icmp .eq 606, 3)) (by decide +kernel) (fun _ => kk s2 hI2) (fun g => absurd rfl g)
theorem w240_19 {i : Int} (hd : 58 ≤ d) (hx : ∀ j, zR (xs j)) (hi : 0 ≤ i ∧ i + 7 ≤ (L : Int) ∧ L ≤ 3584) (hI : Inv s) (kk : ∀ s2, Inv s2 → Fr xs L T0 106 d 247 1424 [some (rf 100006), some (rf 1), some (rf 73), some (it i)] [] s2 (qi fun r _ => r = 1)) : Fr xs L T0 106 d 247 823 [some (rf 100006), some (rf 1), some (rf 73), some (it i)] [] s (qi fun r _ => r = 1) := by
  refine Fr.aldn (c := 1) (by decide +kernel : zi 247 823 = some (.aload_n 1, 1)) rfl ⟨by decide, by decide⟩ ?_
  refine argA (j := 1) (by decide +kernel) (by decide) hi ?_
  refine Fr.callI (y2 := 102) (na := 2) (as := [rf 1, it (xs (i + 1).toNat)]) (rest := []) (by decide +kernel : zi 247 829 = some (.invokevirtual 95, 3)) rfl (by decide +kernel) (by decide +kernel) rfl rfl (zok_V rfl (by decide) (by decide +kernel) (by decide +kernel) (zrecv_c (c := 0) (by decide) (by decide +kernel)) rfl (Nat.le_of_ble_eq_true rfl)) (J102 (by omega) hI) (fun r1 s1 h1 => ?_)
  refine Fr.aldn (c := 73) (by decide +kernel : zi 247 832 = some (.aload_n 2, 1)) rfl ⟨by decide, by decide⟩ ?_
  refine argA (j := 1) (by decide +kernel) (by decide) hi ?_
  refine Fr.callI (y2 := 199) (na := 2) (as := [rf 73, it (xs (i + 1).toNat)]) (rest := [it r1]) (by decide +kernel : zi 247 838 = some (.invokevirtual 98, 3)) rfl (by decide +kernel) (by decide +kernel) rfl rfl (zok_V rfl (by decide) (by decide +kernel) (by decide +kernel) (zrecv_c (c := 72) (by decide) (by decide +kernel)) rfl (Nat.le_of_ble_eq_true rfl)) h1 (fun r2 s2 h2 => ?_)
  obtain ⟨rfl, hI2⟩ := h2
  exact Fr.if2 (q := 1424) (by decide +kernel : zi 247 841 = some (.if_icmp .eq 583, 3)) (by decide +kernel) (fun _ => kk s2 hI2) (fun g => absurd rfl g)
theorem w240_20 {i : Int} (hd : 58 ≤ d) (hx : ∀ j, zR (xs j)) (hi : 0 ≤ i ∧ i + 7 ≤ (L : Int) ∧ L ≤ 3584) (hI : Inv s) (kk : ∀ s2, Inv s2 → Fr xs L T0 106 d 247 1424 [some (rf 100006), some (rf 1), some (rf 73), some (it i)] [] s2 (qi fun r _ => r = 1)) : Fr xs L T0 106 d 247 846 [some (rf 100006), some (rf 1), some (rf 73), some (it i)] [] s (qi fun r _ => r = 1) := by
  refine Fr.aldn (c := 1) (by decide +kernel : zi 247 846 = some (.aload_n 1, 1)) rfl ⟨by decide, by decide⟩ ?_
  refine argA (j := 1) (by decide +kernel) (by decide) hi ?_
  refine Fr.callI (y2 := 103) (na := 2) (as := [rf 1, it (xs (i + 1).toNat)]) (rest := []) (by decide +kernel : zi 247 852 = some (.invokevirtual 99, 3)) rfl (by decide +kernel) (by decide +kernel) rfl rfl (zok_V rfl (by decide) (by decide +kernel) (by decide +kernel) (zrecv_c (c := 0) (by decide) (by decide +kernel)) rfl (Nat.le_of_ble_eq_true rfl)) (J103 (by omega) hI) (fun r1 s1 h1 => ?_)
  refine Fr.aldn (c := 73) (by decide +kernel : zi 247 855 = some (.aload_n 2, 1)) rfl ⟨by decide, by decide⟩ ?_
  refine argA (j := 1) (by decide +kernel) (by decide) hi ?_
  refine Fr.callI (y2 := 200) (na := 2) (as := [rf 73, it (xs (i + 1).toNat)]) (rest := [it r1]) (by decide +kernel : zi 247 861 = some (.invokevirtual 102, 3)) rfl (by decide +kernel) (by decide +kernel) rfl rfl (zok_V rfl (by decide) (by decide +kernel) (by decide +kernel) (zrecv_c (c := 72) (by decide) (by decide +kernel)) rfl (Nat.le_of_ble_eq_true rfl)) h1 (fun r2 s2 h2 => ?_)
  obtain ⟨rfl, hI2⟩ := h2
  exact Fr.if2 (q := 1424) (by decide +kernel : zi 247 864 = some (.if_icmp .eq 560, 3)) (by decide +kernel) (fun _ => kk s2 hI2) (fun g => absurd rfl g)
theorem w240_21 {i : Int} (hd : 58 ≤ d) (hx : ∀ j, zR (xs j)) (hi : 0 ≤ i ∧ i + 7 ≤ (L : Int) ∧ L ≤ 3584) (hI : Inv s) (kk : ∀ s2, Inv s2 → Fr xs L T0 106 d 247 1424 [some (rf 100006), some (rf 1), some (rf 73), some (it i)] [] s2 (qi fun r _ => r = 1)) : Fr xs L T0 106 d 247 869 [some (rf 100006), some (rf 1), some (rf 73), some (it i)] [] s (qi fun r _ => r = 1) := by
  refine Fr.aldn (c := 1) (by decide +kernel : zi 247 869 = some (.aload_n 1, 1)) rfl ⟨by decide, by decide⟩ ?_
  refine argA (j := 1) (by decide +kernel) (by decide) hi ?_
  refine argA (j := 2) (by decide +kernel) (by decide) hi ?_
  refine Fr.callI (y2 := 104) (na := 3) (as := [rf 1, it (xs (i + 1).toNat), it (xs (i + 2).toNat)]) (rest := []) (by decide +kernel : zi 247 880 = some (.invokevirtual 103, 3)) rfl (by decide +kernel) (by decide +kernel) rfl rfl (zok_V rfl (by decide) (by decide +kernel) (by decide +kernel) (zrecv_c (c := 0) (by decide) (by decide +kernel)) rfl (Nat.le_of_ble_eq_true rfl)) (J104 (by omega) hI) (fun r1 s1 h1 => ?_)
  refine Fr.aldn (c := 73) (by decide +kernel : zi 247 883 = some (.aload_n 2, 1)) rfl ⟨by decide, by decide⟩ ?_
  refine argA (j := 1) (by decide +kernel) (by decide) hi ?_
  refine argA (j := 2) (by decide +kernel) (by decide) hi ?_
  refine Fr.callI (y2 := 202) (na := 3) (as := [rf 73, it (xs (i + 1).toNat), it (xs (i + 2).toNat)]) (rest := [it r1]) (by decide +kernel : zi 247 894 = some (.invokevirtual 106, 3)) rfl (by decide +kernel) (by decide +kernel) rfl rfl (zok_V rfl (by decide) (by decide +kernel) (by decide +kernel) (zrecv_c (c := 72) (by decide) (by decide +kernel)) rfl (Nat.le_of_ble_eq_true rfl)) h1 (fun r2 s2 h2 => ?_)
  obtain ⟨rfl, hI2⟩ := h2
  exact Fr.if2 (q := 1424) (by decide +kernel : zi 247 897 = some (.if_icmp .eq 527, 3)) (by decide +kernel) (fun _ => kk s2 hI2) (fun g => absurd rfl g)
theorem w240_22 {i : Int} (hd : 58 ≤ d) (hx : ∀ j, zR (xs j)) (hi : 0 ≤ i ∧ i + 7 ≤ (L : Int) ∧ L ≤ 3584) (hI : Inv s) (kk : ∀ s2, Inv s2 → Fr xs L T0 106 d 247 1424 [some (rf 100006), some (rf 1), some (rf 73), some (it i)] [] s2 (qi fun r _ => r = 1)) : Fr xs L T0 106 d 247 902 [some (rf 100006), some (rf 1), some (rf 73), some (it i)] [] s (qi fun r _ => r = 1) := by
  refine Fr.aldn (c := 1) (by decide +kernel : zi 247 902 = some (.aload_n 1, 1)) rfl ⟨by decide, by decide⟩ ?_
  refine Fr.callI (y2 := 105) (na := 1) (as := [rf 1]) (rest := []) (by decide +kernel : zi 247 903 = some (.invokevirtual 107, 3)) rfl (by decide +kernel) (by decide +kernel) rfl rfl (zok_V rfl (by decide) (by decide +kernel) (by decide +kernel) (zrecv_c (c := 0) (by decide) (by decide +kernel)) rfl (Nat.le_of_ble_eq_true rfl)) (J105 (by omega) hI) (fun r1 s1 h1 => ?_)
  refine Fr.aldn (c := 73) (by decide +kernel : zi 247 906 = some (.aload_n 2, 1)) rfl ⟨by decide, by decide⟩ ?_
  refine Fr.callI (y2 := 205) (na := 1) (as := [rf 73]) (rest := [it r1]) (by decide +kernel : zi 247 907 = some (.invokevirtual 110, 3)) rfl (by decide +kernel) (by decide +kernel) rfl rfl (zok_V rfl (by decide) (by decide +kernel) (by decide +kernel) (zrecv_c (c := 72) (by decide) (by decide +kernel)) rfl (Nat.le_of_ble_eq_true rfl)) h1 (fun r2 s2 h2 => ?_)
  obtain ⟨rfl, hI2⟩ := h2
  exact Fr.if2 (q := 1424) (by decide +kernel : zi 247 910 = some (.if_icmp .eq 514, 3)) (by decide +kernel) (fun _ => kk s2 hI2) (fun g => absurd rfl g)
theorem w240_23 {i : Int} (hd : 58 ≤ d) (hx : ∀ j, zR (xs j)) (hi : 0 ≤ i ∧ i + 7 ≤ (L : Int) ∧ L ≤ 3584) (hI : Inv s) (kk : ∀ s2, Inv s2 → Fr xs L T0 106 d 247 1424 [some (rf 100006), some (rf 1), some (rf 73), some (it i)] [] s2 (qi fun r _ => r = 1)) : Fr xs L T0 106 d 247 915 [some (rf 100006), some (rf 1), some (rf 73), some (it i)] [] s (qi fun r _ => r = 1) := by
  refine Fr.aldn (c := 1) (by decide +kernel : zi 247 915 = some (.aload_n 1, 1)) rfl ⟨by decide, by decide⟩ ?_
  refine Fr.callI (y2 := 106) (na := 1) (as := [rf 1]) (rest := []) (by decide +kernel : zi 247 916 = some (.invokevirtual 111, 3)) rfl (by decide +kernel) (by decide +kernel) rfl rfl (zok_V rfl (by decide) (by decide +kernel) (by decide +kernel) (zrecv_c (c := 0) (by decide) (by decide +kernel)) rfl (Nat.le_of_ble_eq_true rfl)) (J106 (by omega) hI) (fun r1 s1 h1 => ?_)
  refine Fr.aldn (c := 73) (by decide +kernel : zi 247 919 = some (.aload_n 2, 1)) rfl ⟨by decide, by decide⟩ ?_
  refine Fr.callI (y2 := 206) (na := 1) (as := [rf 73]) (rest := [it r1]) (by decide +kernel : zi 247 920 = some (.invokevirtual 114, 3)) rfl (by decide +kernel) (by decide +kernel) rfl rfl (zok_V rfl (by decide) (by decide +kernel) (by decide +kernel) (zrecv_c (c := 72) (by decide) (by decide +kernel)) rfl (Nat.le_of_ble_eq_true rfl)) h1 (fun r2 s2 h2 => ?_)
  obtain ⟨rfl, hI2⟩ := h2
  exact Fr.if2 (q := 1424) (by decide +kernel : zi 247 923 = some (.if_icmp .eq 501, 3)) (by decide +kernel) (fun _ => kk s2 hI2) (fun g => absurd rfl g)
theorem w240_24 {i : Int} (hd : 58 ≤ d) (hx : ∀ j, zR (xs j)) (hi : 0 ≤ i ∧ i + 7 ≤ (L : Int) ∧ L ≤ 3584) (hI : Inv s) (kk : ∀ s2, Inv s2 → Fr xs L T0 106 d 247 1424 [some (rf 100006), some (rf 1), some (rf 73), some (it i)] [] s2 (qi fun r _ => r = 1)) : Fr xs L T0 106 d 247 928 [some (rf 100006), some (rf 1), some (rf 73), some (it i)] [] s (qi fun r _ => r = 1) := by
  refine Fr.aldn (c := 1) (by decide +kernel : zi 247 928 = some (.aload_n 1, 1)) rfl ⟨by decide, by decide⟩ ?_
  refine argA (j := 1) (by decide +kernel) (by decide) hi ?_
  refine argA (j := 2) (by decide +kernel) (by decide) hi ?_
  refine Fr.callI (y2 := 107) (na := 3) (as := [rf 1, it (xs (i + 1).toNat), it (xs (i + 2).toNat)]) (rest := []) (by decide +kernel : zi 247 939 = some (.invokevirtual 115, 3)) rfl (by decide +kernel) (by decide +kernel) rfl rfl (zok_V rfl (by decide) (by decide +kernel) (by decide +kernel) (zrecv_c (c := 0) (by decide) (by decide +kernel)) rfl (Nat.le_of_ble_eq_true rfl)) (J107 (by omega) hI) (fun r1 s1 h1 => ?_)
  refine Fr.aldn (c := 73) (by decide +kernel : zi 247 942 = some (.aload_n 2, 1)) rfl ⟨by decide, by decide⟩ ?_
  refine argA (j := 1) (by decide +kernel) (by decide) hi ?_
  refine argA (j := 2) (by decide +kernel) (by decide) hi ?_
  refine Fr.callI (y2 := 207) (na := 3) (as := [rf 73, it (xs (i + 1).toNat), it (xs (i + 2).toNat)]) (rest := [it r1]) (by decide +kernel : zi 247 953 = some (.invokevirtual 118, 3)) rfl (by decide +kernel) (by decide +kernel) rfl rfl (zok_V rfl (by decide) (by decide +kernel) (by decide +kernel) (zrecv_c (c := 72) (by decide) (by decide +kernel)) rfl (Nat.le_of_ble_eq_true rfl)) h1 (fun r2 s2 h2 => ?_)
  obtain ⟨rfl, hI2⟩ := h2
  exact Fr.if2 (q := 1424) (by decide +kernel : zi 247 956 = some (.if_icmp .eq 468, 3)) (by decide +kernel) (fun _ => kk s2 hI2) (fun g => absurd rfl g)
theorem w240_25 {i : Int} (hd : 58 ≤ d) (hx : ∀ j, zR (xs j)) (hi : 0 ≤ i ∧ i + 7 ≤ (L : Int) ∧ L ≤ 3584) (hI : Inv s) (kk : ∀ s2, Inv s2 → Fr xs L T0 106 d 247 1424 [some (rf 100006), some (rf 1), some (rf 73), some (it i)] [] s2 (qi fun r _ => r = 1)) : Fr xs L T0 106 d 247 961 [some (rf 100006), some (rf 1), some (rf 73), some (it i)] [] s (qi fun r _ => r = 1) := by
  refine Fr.aldn (c := 1) (by decide +kernel : zi 247 961 = some (.aload_n 1, 1)) rfl ⟨by decide, by decide⟩ ?_
  refine argA (j := 1) (by decide +kernel) (by decide) hi ?_
  refine Fr.callI (y2 := 108) (na := 2) (as := [rf 1, it (xs (i + 1).toNat)]) (rest := []) (by decide +kernel : zi 247 967 = some (.invokevirtual 119, 3)) rfl (by decide +kernel) (by decide +kernel) rfl rfl (zok_V rfl (by decide) (by decide +kernel) (by decide +kernel) (zrecv_c (c := 0) (by decide) (by decide +kernel)) rfl (Nat.le_of_ble_eq_true rfl)) (J108 (by omega) hI) (fun r1 s1 h1 => ?_)
  refine Fr.aldn (c := 73) (by decide +kernel : zi 247 970 = some (.aload_n 2, 1)) rfl ⟨by decide, by decide⟩ ?_
  refine argA (j := 1) (by decide +kernel) (by decide) hi ?_
  refine Fr.callI (y2 := 208) (na := 2) (as := [rf 73, it (xs (i + 1).toNat)]) (rest := [it r1]) (by decide +kernel : zi 247 976 = some (.invokevirtual 122, 3)) rfl (by decide +kernel) (by decide +kernel) rfl rfl (zok_V rfl (by decide) (by decide +kernel) (by decide +kernel) (zrecv_c (c := 72) (by decide) (by decide +kernel)) rfl (Nat.le_of_ble_eq_true rfl)) h1 (fun r2 s2 h2 => ?_)
  obtain ⟨rfl, hI2⟩ := h2
  exact Fr.if2 (q := 1424) (by decide +kernel : zi 247 979 = some (.if_icmp .eq 445, 3)) (by decide +kernel) (fun _ => kk s2 hI2) (fun g => absurd rfl g)
theorem w240_26 {i : Int} (hd : 58 ≤ d) (hx : ∀ j, zR (xs j)) (hi : 0 ≤ i ∧ i + 7 ≤ (L : Int) ∧ L ≤ 3584) (hI : Inv s) (kk : ∀ s2, Inv s2 → Fr xs L T0 106 d 247 1424 [some (rf 100006), some (rf 1), some (rf 73), some (it i)] [] s2 (qi fun r _ => r = 1)) : Fr xs L T0 106 d 247 984 [some (rf 100006), some (rf 1), some (rf 73), some (it i)] [] s (qi fun r _ => r = 1) := by
  refine Fr.aldn (c := 1) (by decide +kernel : zi 247 984 = some (.aload_n 1, 1)) rfl ⟨by decide, by decide⟩ ?_
  refine Fr.callI (y2 := 109) (na := 1) (as := [rf 1]) (rest := []) (by decide +kernel : zi 247 985 = some (.invokevirtual 123, 3)) rfl (by decide +kernel) (by decide +kernel) rfl rfl (zok_V rfl (by decide) (by decide +kernel) (by decide +kernel) (zrecv_c (c := 0) (by decide) (by decide +kernel)) rfl (Nat.le_of_ble_eq_true rfl)) (J109 (by omega) hI) (fun r1 s1 h1 => ?_)
  refine Fr.aldn (c := 73) (by decide +kernel : zi 247 988 = some (.aload_n 2, 1)) rfl ⟨by decide, by decide⟩ ?_
  refine Fr.callI (y2 := 209) (na := 1) (as := [rf 73]) (rest := [it r1]) (by decide +kernel : zi 247 989 = some (.invokevirtual 126, 3)) rfl (by decide +kernel) (by decide +kernel) rfl rfl (zok_V rfl (by decide) (by decide +kernel) (by decide +kernel) (zrecv_c (c := 72) (by decide) (by decide +kernel)) rfl (Nat.le_of_ble_eq_true rfl)) h1 (fun r2 s2 h2 => ?_)
  obtain ⟨rfl, hI2⟩ := h2
  exact Fr.if2 (q := 1424) (by decide +kernel : zi 247 992 = some (.if_icmp .eq 432, 3)) (by decide +kernel) (fun _ => kk s2 hI2) (fun g => absurd rfl g)
theorem w240_27 {i : Int} (hd : 58 ≤ d) (hx : ∀ j, zR (xs j)) (hi : 0 ≤ i ∧ i + 7 ≤ (L : Int) ∧ L ≤ 3584) (hI : Inv s) (kk : ∀ s2, Inv s2 → Fr xs L T0 106 d 247 1424 [some (rf 100006), some (rf 1), some (rf 73), some (it i)] [] s2 (qi fun r _ => r = 1)) : Fr xs L T0 106 d 247 997 [some (rf 100006), some (rf 1), some (rf 73), some (it i)] [] s (qi fun r _ => r = 1) := by
  refine Fr.aldn (c := 1) (by decide +kernel : zi 247 997 = some (.aload_n 1, 1)) rfl ⟨by decide, by decide⟩ ?_
  refine argA (j := 1) (by decide +kernel) (by decide) hi ?_
  refine argA (j := 2) (by decide +kernel) (by decide) hi ?_
  refine Fr.callI (y2 := 110) (na := 3) (as := [rf 1, it (xs (i + 1).toNat), it (xs (i + 2).toNat)]) (rest := []) (by decide +kernel : zi 247 1008 = some (.invokevirtual 127, 3)) rfl (by decide +kernel) (by decide +kernel) rfl rfl (zok_V rfl (by decide) (by decide +kernel) (by decide +kernel) (zrecv_c (c := 0) (by decide) (by decide +kernel)) rfl (Nat.le_of_ble_eq_true rfl)) (J110 (by omega) hI) (fun r1 s1 h1 => ?_)
  refine Fr.aldn (c := 73) (by decide +kernel : zi 247 1011 = some (.aload_n 2, 1)) rfl ⟨by decide, by decide⟩ ?_
  refine argA (j := 1) (by decide +kernel) (by decide) hi ?_
  refine argA (j := 2) (by decide +kernel) (by decide) hi ?_
  refine Fr.callI (y2 := 210) (na := 3) (as := [rf 73, it (xs (i + 1).toNat), it (xs (i + 2).toNat)]) (rest := [it r1]) (by decide +kernel : zi 247 1022 = some (.invokevirtual 130, 3)) rfl (by decide +kernel) (by decide +kernel) rfl rfl (zok_V rfl (by decide) (by decide +kernel) (by decide +kernel) (zrecv_c (c := 72) (by decide) (by decide +kernel)) rfl (Nat.le_of_ble_eq_true rfl)) h1 (fun r2 s2 h2 => ?_)
  obtain ⟨rfl, hI2⟩ := h2
  exact Fr.if2 (q := 1424) (by decide +kernel : zi 247 1025 = some (.if_icmp .eq 399, 3)) (by decide +kernel) (fun _ => kk s2 hI2) (fun g => absurd rfl g)
theorem w240_28 {i : Int} (hd : 58 ≤ d) (hx : ∀ j, zR (xs j)) (hi : 0 ≤ i ∧ i + 7 ≤ (L : Int) ∧ L ≤ 3584) (hI : Inv s) (kk : ∀ s2, Inv s2 → Fr xs L T0 106 d 247 1424 [some (rf 100006), some (rf 1), some (rf 73), some (it i)] [] s2 (qi fun r _ => r = 1)) : Fr xs L T0 106 d 247 1030 [some (rf 100006), some (rf 1), some (rf 73), some (it i)] [] s (qi fun r _ => r = 1) := by
  refine Fr.aldn (c := 1) (by decide +kernel : zi 247 1030 = some (.aload_n 1, 1)) rfl ⟨by decide, by decide⟩ ?_
  refine argA (j := 1) (by decide +kernel) (by decide) hi ?_
  refine Fr.callI (y2 := 111) (na := 2) (as := [rf 1, it (xs (i + 1).toNat)]) (rest := []) (by decide +kernel : zi 247 1036 = some (.invokevirtual 131, 3)) rfl (by decide +kernel) (by decide +kernel) rfl rfl (zok_V rfl (by decide) (by decide +kernel) (by decide +kernel) (zrecv_c (c := 0) (by decide) (by decide +kernel)) rfl (Nat.le_of_ble_eq_true rfl)) (J111 (by omega) hI) (fun r1 s1 h1 => ?_)
  refine Fr.aldn (c := 73) (by decide +kernel : zi 247 1039 = some (.aload_n 2, 1)) rfl ⟨by decide, by decide⟩ ?_
  refine argA (j := 1) (by decide +kernel) (by decide) hi ?_
  refine Fr.callI (y2 := 211) (na := 2) (as := [rf 73, it (xs (i + 1).toNat)]) (rest := [it r1]) (by decide +kernel : zi 247 1045 = some (.invokevirtual 134, 3)) rfl (by decide +kernel) (by decide +kernel) rfl rfl (zok_V rfl (by decide) (by decide +kernel) (by decide +kernel) (zrecv_c (c := 72) (by decide) (by decide +kernel)) rfl (Nat.le_of_ble_eq_true rfl)) h1 (fun r2 s2 h2 => ?_)
  obtain ⟨rfl, hI2⟩ := h2
  exact Fr.if2 (q := 1424) (by decide +kernel : zi 247 1048 = some (.if_icmp .eq 376, 3)) (by decide +kernel) (fun _ => kk s2 hI2) (fun g => absurd rfl g)
theorem w240_29 {i : Int} (hd : 58 ≤ d) (hx : ∀ j, zR (xs j)) (hi : 0 ≤ i ∧ i + 7 ≤ (L : Int) ∧ L ≤ 3584) (hI : Inv s) (kk : ∀ s2, Inv s2 → Fr xs L T0 106 d 247 1424 [some (rf 100006), some (rf 1), some (rf 73), some (it i)] [] s2 (qi fun r _ => r = 1)) : Fr xs L T0 106 d 247 1053 [some (rf 100006), some (rf 1), some (rf 73), some (it i)] [] s (qi fun r _ => r = 1) := by
  refine Fr.aldn (c := 1) (by decide +kernel : zi 247 1053 = some (.aload_n 1, 1)) rfl ⟨by decide, by decide⟩ ?_
  refine Fr.callI (y2 := 112) (na := 1) (as := [rf 1]) (rest := []) (by decide +kernel : zi 247 1054 = some (.invokevirtual 135, 3)) rfl (by decide +kernel) (by decide +kernel) rfl rfl (zok_V rfl (by decide) (by decide +kernel) (by decide +kernel) (zrecv_c (c := 0) (by decide) (by decide +kernel)) rfl (Nat.le_of_ble_eq_true rfl)) (J112 (by omega) hI) (fun r1 s1 h1 => ?_)
  refine Fr.aldn (c := 73) (by decide +kernel : zi 247 1057 = some (.aload_n 2, 1)) rfl ⟨by decide, by decide⟩ ?_
  refine Fr.callI (y2 := 212) (na := 1) (as := [rf 73]) (rest := [it r1]) (by decide +kernel : zi 247 1058 = some (.invokevirtual 138, 3)) rfl (by decide +kernel) (by decide +kernel) rfl rfl (zok_V rfl (by decide) (by decide +kernel) (by decide +kernel) (zrecv_c (c := 72) (by decide) (by decide +kernel)) rfl (Nat.le_of_ble_eq_true rfl)) h1 (fun r2 s2 h2 => ?_)
  obtain ⟨rfl, hI2⟩ := h2
  exact Fr.if2 (q := 1424) (by decide +kernel : zi 247 1061 = some (.if_icmp .eq 363, 3)) (by decide +kernel) (fun _ => kk s2 hI2) (fun g => absurd rfl g)
theorem w240_30 {i : Int} (hd : 58 ≤ d) (hx : ∀ j, zR (xs j)) (hi : 0 ≤ i ∧ i + 7 ≤ (L : Int) ∧ L ≤ 3584) (hI : Inv s) (kk : ∀ s2, Inv s2 → Fr xs L T0 106 d 247 1424 [some (rf 100006), some (rf 1), some (rf 73), some (it i)] [] s2 (qi fun r _ => r = 1)) : Fr xs L T0 106 d 247 1066 [some (rf 100006), some (rf 1), some (rf 73), some (it i)] [] s (qi fun r _ => r = 1) := by
  refine Fr.aldn (c := 1) (by decide +kernel : zi 247 1066 = some (.aload_n 1, 1)) rfl ⟨by decide, by decide⟩ ?_
  refine argA (j := 1) (by decide +kernel) (by decide) hi ?_
  refine argA (j := 2) (by decide +kernel) (by decide) hi ?_
  refine argA (j := 3) (by decide +kernel) (by decide) hi ?_
  refine Fr.callI (y2 := 113) (na := 4) (as := [rf 1, it (xs (i + 1).toNat), it (xs (i + 2).toNat), it (xs (i + 3).toNat)]) (rest := []) (by decide +kernel : zi 247 1082 = some (.invokevirtual 139, 3)) rfl (by decide +kernel) (by decide +kernel) rfl rfl (zok_V rfl (by decide) (by decide +kernel) (by decide +kernel) (zrecv_c (c := 0) (by decide) (by decide +kernel)) rfl (Nat.le_of_ble_eq_true rfl)) (J113 (by omega) hI) (fun r1 s1 h1 => ?_)
  refine Fr.aldn (c := 73) (by decide +kernel : zi 247 1085 = some (.aload_n 2, 1)) rfl ⟨by decide, by decide⟩ ?_
  refine argA (j := 1) (by decide +kernel) (by decide) hi ?_
  refine argA (j := 2) (by decide +kernel) (by decide) hi ?_
  refine argA (j := 3) (by decide +kernel) (by decide) hi ?_
  refine Fr.callI (y2 := 217) (na := 4) (as := [rf 73, it (xs (i + 1).toNat), it (xs (i + 2).toNat), it (xs (i + 3).toNat)]) (rest := [it r1]) (by decide +kernel : zi 247 1101 = some (.invokevirtual 142, 3)) rfl (by decide +kernel) (by decide +kernel) rfl rfl (zok_V rfl (by decide) (by decide +kernel) (by decide +kernel) (zrecv_c (c := 72) (by decide) (by decide +kernel)) rfl (Nat.le_of_ble_eq_true rfl)) h1 (fun r2 s2 h2 => ?_)
  obtain ⟨rfl, hI2⟩ := h2
  exact Fr.if2 (q := 1424) (by decide +kernel : zi 247 1104 = some (.if_icmp .eq 320, 3)) (by decide +kernel) (fun _ => kk s2 hI2) (fun g => absurd rfl g)
theorem w240_31 {i : Int} (hd : 58 ≤ d) (hx : ∀ j, zR (xs j)) (hi : 0 ≤ i ∧ i + 7 ≤ (L : Int) ∧ L ≤ 3584) (hI : Inv s) (kk : ∀ s2, Inv s2 → Fr xs L T0 106 d 247 1424 [some (rf 100006), some (rf 1), some (rf 73), some (it i)] [] s2 (qi fun r _ => r = 1)) : Fr xs L T0 106 d 247 1109 [some (rf 100006), some (rf 1), some (rf 73), some (it i)] [] s (qi fun r _ => r = 1) := by
  refine Fr.aldn (c := 1) (by decide +kernel : zi 247 1109 = some (.aload_n 1, 1)) rfl ⟨by decide, by decide⟩ ?_
  refine argA (j := 1) (by decide +kernel) (by decide) hi ?_
  refine argA (j := 2) (by decide +kernel) (by decide) hi ?_
  refine argA (j := 3) (by decide +kernel) (by decide) hi ?_
  refine argA (j := 4) (by decide +kernel) (by decide) hi ?_
  refine Fr.callL (y2 := 114) (na := 5) (as := [rf 1, it (xs (i + 1).toNat), it (xs (i + 2).toNat), it (xs (i + 3).toNat), it (xs (i + 4).toNat)]) (rest := []) (by decide +kernel : zi 247 1130 = some (.invokevirtual 143, 3)) rfl (by decide +kernel) (by decide +kernel) rfl rfl (zok_V rfl (by decide) (by decide +kernel) (by decide +kernel) (zrecv_c (c := 0) (by decide) (by decide +kernel)) rfl (Nat.le_of_ble_eq_true rfl)) (J114 (by omega) (hx _).2 hI) (fun r1 s1 h1 => ?_)
  refine Fr.aldn (c := 73) (by decide +kernel : zi 247 1133 = some (.aload_n 2, 1)) rfl ⟨by decide, by decide⟩ ?_
  refine argA (j := 1) (by decide +kernel) (by decide) hi ?_
  refine argA (j := 2) (by decide +kernel) (by decide) hi ?_
  refine argA (j := 3) (by decide +kernel) (by decide) hi ?_
  refine argA (j := 4) (by decide +kernel) (by decide) hi ?_
  refine Fr.callL (y2 := 218) (na := 5) (as := [rf 73, it (xs (i + 1).toNat), it (xs (i + 2).toNat), it (xs (i + 3).toNat), it (xs (i + 4).toNat)]) (rest := [lg r1]) (by decide +kernel : zi 247 1154 = some (.invokevirtual 147, 3)) rfl (by decide +kernel) (by decide +kernel) rfl rfl (zok_V rfl (by decide) (by decide +kernel) (by decide +kernel) (zrecv_c (c := 72) (by decide) (by decide +kernel)) rfl (Nat.le_of_ble_eq_true rfl)) h1 (fun r2 s2 h2 => ?_)
  obtain ⟨rfl, hI2⟩ := h2
  refine Fr.lcmp (by decide +kernel : zi 247 1157 = some (.lcmp, 1)) ?_
  have e0 : zlcmp r2 r2 = 0 := by unfold zlcmp; rw [if_neg (by omega), if_pos rfl]
  rw [e0]
  exact Fr.if0 (q := 1424) (by decide +kernel : zi 247 1158 = some (.ifCond .eq 266, 3)) (by decide +kernel) (fun _ => kk s2 hI2) (fun g => absurd rfl g)
theorem w240_32 {i : Int} (hd : 58 ≤ d) (hx : ∀ j, zR (xs j)) (hi : 0 ≤ i ∧ i + 7 ≤ (L : Int) ∧ L ≤ 3584) (hI : Inv s) (kk : ∀ s2, Inv s2 → Fr xs L T0 106 d 247 1424 [some (rf 100006), some (rf 1), some (rf 73), some (it i)] [] s2 (qi fun r _ => r = 1)) : Fr xs L T0 106 d 247 1163 [some (rf 100006), some (rf 1), some (rf 73), some (it i)] [] s (qi fun r _ => r = 1) := by
  refine Fr.aldn (c := 1) (by decide +kernel : zi 247 1163 = some (.aload_n 1, 1)) rfl ⟨by decide, by decide⟩ ?_
  refine Fr.callI (y2 := 115) (na := 1) (as := [rf 1]) (rest := []) (by decide +kernel : zi 247 1164 = some (.invokevirtual 148, 3)) rfl (by decide +kernel) (by decide +kernel) rfl rfl (zok_V rfl (by decide) (by decide +kernel) (by decide +kernel) (zrecv_c (c := 0) (by decide) (by decide +kernel)) rfl (Nat.le_of_ble_eq_true rfl)) (J115 (by omega) hI) (fun r1 s1 h1 => ?_)
  refine Fr.aldn (c := 73) (by decide +kernel : zi 247 1167 = some (.aload_n 2, 1)) rfl ⟨by decide, by decide⟩ ?_
  refine Fr.callI (y2 := 219) (na := 1) (as := [rf 73]) (rest := [it r1]) (by decide +kernel : zi 247 1168 = some (.invokevirtual 151, 3)) rfl (by decide +kernel) (by decide +kernel) rfl rfl (zok_V rfl (by decide) (by decide +kernel) (by decide +kernel) (zrecv_c (c := 72) (by decide) (by decide +kernel)) rfl (Nat.le_of_ble_eq_true rfl)) h1 (fun r2 s2 h2 => ?_)
  obtain ⟨rfl, hI2⟩ := h2
  exact Fr.if2 (q := 1424) (by decide +kernel : zi 247 1171 = some (.if_icmp .eq 253, 3)) (by decide +kernel) (fun _ => kk s2 hI2) (fun g => absurd rfl g)
theorem w240_33 {i : Int} (hd : 58 ≤ d) (hx : ∀ j, zR (xs j)) (hi : 0 ≤ i ∧ i + 7 ≤ (L : Int) ∧ L ≤ 3584) (hI : Inv s) (kk : ∀ s2, Inv s2 → Fr xs L T0 106 d 247 1424 [some (rf 100006), some (rf 1), some (rf 73), some (it i)] [] s2 (qi fun r _ => r = 1)) : Fr xs L T0 106 d 247 1176 [some (rf 100006), some (rf 1), some (rf 73), some (it i)] [] s (qi fun r _ => r = 1) := by
  refine Fr.aldn (c := 1) (by decide +kernel : zi 247 1176 = some (.aload_n 1, 1)) rfl ⟨by decide, by decide⟩ ?_
  refine Fr.callI (y2 := 116) (na := 1) (as := [rf 1]) (rest := []) (by decide +kernel : zi 247 1177 = some (.invokevirtual 152, 3)) rfl (by decide +kernel) (by decide +kernel) rfl rfl (zok_V rfl (by decide) (by decide +kernel) (by decide +kernel) (zrecv_c (c := 0) (by decide) (by decide +kernel)) rfl (Nat.le_of_ble_eq_true rfl)) (J116 (by omega) hI) (fun r1 s1 h1 => ?_)
  refine Fr.aldn (c := 73) (by decide +kernel : zi 247 1180 = some (.aload_n 2, 1)) rfl ⟨by decide, by decide⟩ ?_
  refine Fr.callI (y2 := 220) (na := 1) (as := [rf 73]) (rest := [it r1]) (by decide +kernel : zi 247 1181 = some (.invokevirtual 155, 3)) rfl (by decide +kernel) (by decide +kernel) rfl rfl (zok_V rfl (by decide) (by decide +kernel) (by decide +kernel) (zrecv_c (c := 72) (by decide) (by decide +kernel)) rfl (Nat.le_of_ble_eq_true rfl)) h1 (fun r2 s2 h2 => ?_)
  obtain ⟨rfl, hI2⟩ := h2
  exact Fr.if2 (q := 1424) (by decide +kernel : zi 247 1184 = some (.if_icmp .eq 240, 3)) (by decide +kernel) (fun _ => kk s2 hI2) (fun g => absurd rfl g)
theorem w240_34 {i : Int} (hd : 58 ≤ d) (hx : ∀ j, zR (xs j)) (hi : 0 ≤ i ∧ i + 7 ≤ (L : Int) ∧ L ≤ 3584) (hI : Inv s) (kk : ∀ s2, Inv s2 → Fr xs L T0 106 d 247 1424 [some (rf 100006), some (rf 1), some (rf 73), some (it i)] [] s2 (qi fun r _ => r = 1)) : Fr xs L T0 106 d 247 1189 [some (rf 100006), some (rf 1), some (rf 73), some (it i)] [] s (qi fun r _ => r = 1) := by
  refine Fr.aldn (c := 1) (by decide +kernel : zi 247 1189 = some (.aload_n 1, 1)) rfl ⟨by decide, by decide⟩ ?_
  refine argA (j := 1) (by decide +kernel) (by decide) hi ?_
  refine argA (j := 2) (by decide +kernel) (by decide) hi ?_
  refine argA (j := 3) (by decide +kernel) (by decide) hi ?_
  refine Fr.callI (y2 := 117) (na := 4) (as := [rf 1, it (xs (i + 1).toNat), it (xs (i + 2).toNat), it (xs (i + 3).toNat)]) (rest := []) (by decide +kernel : zi 247 1205 = some (.invokevirtual 156, 3)) rfl (by decide +kernel) (by decide +kernel) rfl rfl (zok_V rfl (by decide) (by decide +kernel) (by decide +kernel) (zrecv_c (c := 0) (by decide) (by decide +kernel)) rfl (Nat.le_of_ble_eq_true rfl)) (J117 (by omega) hI) (fun r1 s1 h1 => ?_)
  refine Fr.aldn (c := 73) (by decide +kernel : zi 247 1208 = some (.aload_n 2, 1)) rfl ⟨by decide, by decide⟩ ?_
  refine argA (j := 1) (by decide +kernel) (by decide) hi ?_
  refine argA (j := 2) (by decide +kernel) (by decide) hi ?_
  refine argA (j := 3) (by decide +kernel) (by decide) hi ?_
  refine Fr.callI (y2 := 222) (na := 4) (as := [rf 73, it (xs (i + 1).toNat), it (xs (i + 2).toNat), it (xs (i + 3).toNat)]) (rest := [it r1]) (by decide +kernel : zi 247 1224 = some (.invokevirtual 159, 3)) rfl (by decide +kernel) (by decide +kernel) rfl rfl (zok_V rfl (by decide) (by decide +kernel) (by decide +kernel) (zrecv_c (c := 72) (by decide) (by decide +kernel)) rfl (Nat.le_of_ble_eq_true rfl)) h1 (fun r2 s2 h2 => ?_)
  obtain ⟨rfl, hI2⟩ := h2
  exact Fr.if2 (q := 1424) (by decide +kernel : zi 247 1227 = some (.if_icmp .eq 197, 3)) (by decide +kernel) (fun _ => kk s2 hI2) (fun g => absurd rfl g)
theorem w240_35 {i : Int} (hd : 58 ≤ d) (hx : ∀ j, zR (xs j)) (hi : 0 ≤ i ∧ i + 7 ≤ (L : Int) ∧ L ≤ 3584) (hI : Inv s) (kk : ∀ s2, Inv s2 → Fr xs L T0 106 d 247 1424 [some (rf 100006), some (rf 1), some (rf 73), some (it i)] [] s2 (qi fun r _ => r = 1)) : Fr xs L T0 106 d 247 1232 [some (rf 100006), some (rf 1), some (rf 73), some (it i)] [] s (qi fun r _ => r = 1) := by
  refine Fr.aldn (c := 1) (by decide +kernel : zi 247 1232 = some (.aload_n 1, 1)) rfl ⟨by decide, by decide⟩ ?_
  refine argA (j := 1) (by decide +kernel) (by decide) hi ?_
  refine argA (j := 2) (by decide +kernel) (by decide) hi ?_
  refine argA (j := 3) (by decide +kernel) (by decide) hi ?_
  refine Fr.callI (y2 := 118) (na := 4) (as := [rf 1, it (xs (i + 1).toNat), it (xs (i + 2).toNat), it (xs (i + 3).toNat)]) (rest := []) (by decide +kernel : zi 247 1248 = some (.invokevirtual 160, 3)) rfl (by decide +kernel) (by decide +kernel) rfl rfl (zok_V rfl (by decide) (by decide +kernel) (by decide +kernel) (zrecv_c (c := 0) (by decide) (by decide +kernel)) rfl (Nat.le_of_ble_eq_true rfl)) (J118 (by omega) (hx _) hI) (fun r1 s1 h1 => ?_)
  refine Fr.aldn (c := 73) (by decide +kernel : zi 247 1251 = some (.aload_n 2, 1)) rfl ⟨by decide, by decide⟩ ?_
  refine argA (j := 1) (by decide +kernel) (by decide) hi ?_
  refine argA (j := 2) (by decide +kernel) (by decide) hi ?_
  refine argA (j := 3) (by decide +kernel) (by decide) hi ?_
  refine Fr.callI (y2 := 223) (na := 4) (as := [rf 73, it (xs (i + 1).toNat), it (xs (i + 2).toNat), it (xs (i + 3).toNat)]) (rest := [it r1]) (by decide +kernel : zi 247 1267 = some (.invokevirtual 163, 3)) rfl (by decide +kernel) (by decide +kernel) rfl rfl (zok_V rfl (by decide) (by decide +kernel) (by decide +kernel) (zrecv_c (c := 72) (by decide) (by decide +kernel)) rfl (Nat.le_of_ble_eq_true rfl)) h1 (fun r2 s2 h2 => ?_)
  obtain ⟨rfl, hI2⟩ := h2
  exact Fr.if2 (q := 1424) (by decide +kernel : zi 247 1270 = some (.if_icmp .eq 154, 3)) (by decide +kernel) (fun _ => kk s2 hI2) (fun g => absurd rfl g)
theorem w240_36 {i : Int} (hd : 58 ≤ d) (hx : ∀ j, zR (xs j)) (hi : 0 ≤ i ∧ i + 7 ≤ (L : Int) ∧ L ≤ 3584) (hI : Inv s) (kk : ∀ s2, Inv s2 → Fr xs L T0 106 d 247 1424 [some (rf 100006), some (rf 1), some (rf 73), some (it i)] [] s2 (qi fun r _ => r = 1)) : Fr xs L T0 106 d 247 1275 [some (rf 100006), some (rf 1), some (rf 73), some (it i)] [] s (qi fun r _ => r = 1) := by
  refine Fr.aldn (c := 1) (by decide +kernel : zi 247 1275 = some (.aload_n 1, 1)) rfl ⟨by decide, by decide⟩ ?_
  refine argA (j := 1) (by decide +kernel) (by decide) hi ?_
  refine argA (j := 2) (by decide +kernel) (by decide) hi ?_
  refine argA (j := 3) (by decide +kernel) (by decide) hi ?_
  refine argA (j := 4) (by decide +kernel) (by decide) hi ?_
  refine argA (j := 5) (by decide +kernel) (by decide) hi ?_
  refine Fr.callI (y2 := 119) (na := 6) (as := [rf 1, it (xs (i + 1).toNat), it (xs (i + 2).toNat), it (xs (i + 3).toNat), it (xs (i + 4).toNat), it (xs (i + 5).toNat)]) (rest := []) (by decide +kernel : zi 247 1301 = some (.invokevirtual 164, 3)) rfl (by decide +kernel) (by decide +kernel) rfl rfl (zok_V rfl (by decide) (by decide +kernel) (by decide +kernel) (zrecv_c (c := 0) (by decide) (by decide +kernel)) rfl (Nat.le_of_ble_eq_true rfl)) (J119 (by omega) (hx _).2 (hx _).2 (hx _).2 hI) (fun r1 s1 h1 => ?_)
  refine Fr.aldn (c := 73) (by decide +kernel : zi 247 1304 = some (.aload_n 2, 1)) rfl ⟨by decide, by decide⟩ ?_
  refine argA (j := 1) (by decide +kernel) (by decide) hi ?_
  refine argA (j := 2) (by decide +kernel) (by decide) hi ?_
  refine argA (j := 3) (by decide +kernel) (by decide) hi ?_
  refine argA (j := 4) (by decide +kernel) (by decide) hi ?_
  refine argA (j := 5) (by decide +kernel) (by decide) hi ?_
  refine Fr.callI (y2 := 224) (na := 6) (as := [rf 73, it (xs (i + 1).toNat), it (xs (i + 2).toNat), it (xs (i + 3).toNat), it (xs (i + 4).toNat), it (xs (i + 5).toNat)]) (rest := [it r1]) (by decide +kernel : zi 247 1330 = some (.invokevirtual 168, 3)) rfl (by decide +kernel) (by decide +kernel) rfl rfl (zok_V rfl (by decide) (by decide +kernel) (by decide +kernel) (zrecv_c (c := 72) (by decide) (by decide +kernel)) rfl (Nat.le_of_ble_eq_true rfl)) h1 (fun r2 s2 h2 => ?_)
  obtain ⟨rfl, hI2⟩ := h2
  exact Fr.if2 (q := 1424) (by decide +kernel : zi 247 1333 = some (.if_icmp .eq 91, 3)) (by decide +kernel) (fun _ => kk s2 hI2) (fun g => absurd rfl g)
theorem w240_37 {i : Int} (hd : 58 ≤ d) (hx : ∀ j, zR (xs j)) (hi : 0 ≤ i ∧ i + 7 ≤ (L : Int) ∧ L ≤ 3584) (hI : Inv s) (kk : ∀ s2, Inv s2 → Fr xs L T0 106 d 247 1424 [some (rf 100006), some (rf 1), some (rf 73), some (it i)] [] s2 (qi fun r _ => r = 1)) : Fr xs L T0 106 d 247 1338 [some (rf 100006), some (rf 1), some (rf 73), some (it i)] [] s (qi fun r _ => r = 1) := by
  refine Fr.aldn (c := 1) (by decide +kernel : zi 247 1338 = some (.aload_n 1, 1)) rfl ⟨by decide, by decide⟩ ?_
  refine argA (j := 1) (by decide +kernel) (by decide) hi ?_
  refine argA (j := 2) (by decide +kernel) (by decide) hi ?_
  refine argA (j := 3) (by decide +kernel) (by decide) hi ?_
  refine argA (j := 4) (by decide +kernel) (by decide) hi ?_
  refine Fr.callI (y2 := 120) (na := 5) (as := [rf 1, it (xs (i + 1).toNat), it (xs (i + 2).toNat), it (xs (i + 3).toNat), it (xs (i + 4).toNat)]) (rest := []) (by decide +kernel : zi 247 1359 = some (.invokevirtual 169, 3)) rfl (by decide +kernel) (by decide +kernel) rfl rfl (zok_V rfl (by decide) (by decide +kernel) (by decide +kernel) (zrecv_c (c := 0) (by decide) (by decide +kernel)) rfl (Nat.le_of_ble_eq_true rfl)) (J120 (by omega) (hx _) hI) (fun r1 s1 h1 => ?_)
  refine Fr.aldn (c := 73) (by decide +kernel : zi 247 1362 = some (.aload_n 2, 1)) rfl ⟨by decide, by decide⟩ ?_
  refine argA (j := 1) (by decide +kernel) (by decide) hi ?_
  refine argA (j := 2) (by decide +kernel) (by decide) hi ?_
  refine argA (j := 3) (by decide +kernel) (by decide) hi ?_
  refine argA (j := 4) (by decide +kernel) (by decide) hi ?_
  refine Fr.callI (y2 := 225) (na := 5) (as := [rf 73, it (xs (i + 1).toNat), it (xs (i + 2).toNat), it (xs (i + 3).toNat), it (xs (i + 4).toNat)]) (rest := [it r1]) (by decide +kernel : zi 247 1383 = some (.invokevirtual 172, 3)) rfl (by decide +kernel) (by decide +kernel) rfl rfl (zok_V rfl (by decide) (by decide +kernel) (by decide +kernel) (zrecv_c (c := 72) (by decide) (by decide +kernel)) rfl (Nat.le_of_ble_eq_true rfl)) h1 (fun r2 s2 h2 => ?_)
  obtain ⟨rfl, hI2⟩ := h2
  exact Fr.if2 (q := 1424) (by decide +kernel : zi 247 1386 = some (.if_icmp .eq 38, 3)) (by decide +kernel) (fun _ => kk s2 hI2) (fun g => absurd rfl g)
theorem w240_38 {i : Int} (hd : 58 ≤ d) (hx : ∀ j, zR (xs j)) (hi : 0 ≤ i ∧ i + 7 ≤ (L : Int) ∧ L ≤ 3584) (hI : Inv s) (kk : ∀ s2, Inv s2 → Fr xs L T0 106 d 247 1424 [some (rf 100006), some (rf 1), some (rf 73), some (it i)] [] s2 (qi fun r _ => r = 1)) : Fr xs L T0 106 d 247 1391 [some (rf 100006), some (rf 1), some (rf 73), some (it i)] [] s (qi fun r _ => r = 1) := by
  refine Fr.aldn (c := 1) (by decide +kernel : zi 247 1391 = some (.aload_n 1, 1)) rfl ⟨by decide, by decide⟩ ?_
  refine argA (j := 1) (by decide +kernel) (by decide) hi ?_
  refine argA (j := 2) (by decide +kernel) (by decide) hi ?_
  refine Fr.callI (y2 := 121) (na := 3) (as := [rf 1, it (xs (i + 1).toNat), it (xs (i + 2).toNat)]) (rest := []) (by decide +kernel : zi 247 1402 = some (.invokevirtual 173, 3)) rfl (by decide +kernel) (by decide +kernel) rfl rfl (zok_V rfl (by decide) (by decide +kernel) (by decide +kernel) (zrecv_c (c := 0) (by decide) (by decide +kernel)) rfl (Nat.le_of_ble_eq_true rfl)) (J121 (by omega) hI) (fun r1 s1 h1 => ?_)
  refine Fr.aldn (c := 73) (by decide +kernel : zi 247 1405 = some (.aload_n 2, 1)) rfl ⟨by decide, by decide⟩ ?_
  refine argA (j := 1) (by decide +kernel) (by decide) hi ?_
  refine argA (j := 2) (by decide +kernel) (by decide) hi ?_
  refine Fr.callI (y2 := 227) (na := 3) (as := [rf 73, it (xs (i + 1).toNat), it (xs (i + 2).toNat)]) (rest := [it r1]) (by decide +kernel : zi 247 1416 = some (.invokevirtual 176, 3)) rfl (by decide +kernel) (by decide +kernel) rfl rfl (zok_V rfl (by decide) (by decide +kernel) (by decide +kernel) (zrecv_c (c := 72) (by decide) (by decide +kernel)) rfl (Nat.le_of_ble_eq_true rfl)) h1 (fun r2 s2 h2 => ?_)
  obtain ⟨rfl, hI2⟩ := h2
  exact Fr.if2 (q := 1424) (by decide +kernel : zi 247 1419 = some (.if_icmp .eq 5, 3)) (by decide +kernel) (fun _ => kk s2 hI2) (fun g => absurd rfl g)
theorem s240 {i v : Int} (hd : 58 ≤ d) (hx : ∀ j, zR (xs j)) (hi : 0 ≤ i ∧ i + 7 ≤ (L : Int) ∧ L ≤ 3584) (hI : Inv s) (kk : ∀ s2, Inv s2 → Fr xs L T0 106 d 247 1424 [some (rf 100006), some (rf 1), some (rf 73), some (it i)] [] s2 (qi fun r _ => r = 1)) : Fr xs L T0 106 d 247 33 [some (rf 100006), some (rf 1), some (rf 73), some (it i)] [it v] s (qi fun r _ => r = 1) := by
  have sw : zi 247 33 = some (.tableswitch 1391 0 38 #[171, 214, 237, 260, 335, 348, 371, 424, 477, 520, 553, 586, 619, 632, 675, 688, 701, 734, 767, 790, 813, 836, 869, 882, 895, 928, 951, 964, 997, 1020, 1033, 1076, 1130, 1143, 1156, 1199, 1242, 1305, 1358], 171) := by decide +kernel
  by_cases h : v < 0 ∨ 38 < v
  · exact Fr.tsd sw h (by decide +kernel : zbr 33 1391 = some 1424) (kk s hI)
  · have c : v = 0 ∨ v = 1 ∨ v = 2 ∨ v = 3 ∨ v = 4 ∨ v = 5 ∨ v = 6 ∨ v = 7 ∨ v = 8 ∨ v = 9 ∨ v = 10 ∨ v = 11 ∨ v = 12 ∨ v = 13 ∨ v = 14 ∨ v = 15 ∨ v = 16 ∨ v = 17 ∨ v = 18 ∨ v = 19 ∨ v = 20 ∨ v = 21 ∨ v = 22 ∨ v = 23 ∨ v = 24 ∨ v = 25 ∨ v = 26 ∨ v = 27 ∨ v = 28 ∨ v = 29 ∨ v = 30 ∨ v = 31 ∨ v = 32 ∨ v = 33 ∨ v = 34 ∨ v = 35 ∨ v = 36 ∨ v = 37 ∨ v = 38 := by omega
    rcases c with rfl | rfl | rfl | rfl | rfl | rfl | rfl | rfl | rfl | rfl | rfl | rfl | rfl | rfl | rfl | rfl | rfl | rfl | rfl | rfl | rfl | rfl | rfl | rfl | rfl | rfl | rfl | rfl | rfl | rfl | rfl | rfl | rfl | rfl | rfl | rfl | rfl | rfl | rfl
    · exact Fr.tsw (q := 204) (off := 171) sw (by decide) rfl (by decide +kernel) (w240_0 hd hx hi hI kk)
    · exact Fr.tsw (q := 247) (off := 214) sw (by decide) rfl (by decide +kernel) (w240_1 hd hx hi hI kk)
    · exact Fr.tsw (q := 270) (off := 237) sw (by decide) rfl (by decide +kernel) (w240_2 hd hx hi hI kk)
    · exact Fr.tsw (q := 293) (off := 260) sw (by decide) rfl (by decide +kernel) (w240_3 hd hx hi hI kk)
    · exact Fr.tsw (q := 368) (off := 335) sw (by decide) rfl (by decide +kernel) (w240_4 hd hx hi hI kk)
    · exact Fr.tsw (q := 381) (off := 348) sw (by decide) rfl (by decide +kernel) (w240_5 hd hx hi hI kk)
    · exact Fr.tsw (q := 404) (off := 371) sw (by decide) rfl (by decide +kernel) (w240_6 hd hx hi hI kk)
    · exact Fr.tsw (q := 457) (off := 424) sw (by decide) rfl (by decide +kernel) (w240_7 hd hx hi hI kk)
    · exact Fr.tsw (q := 510) (off := 477) sw (by decide) rfl (by decide +kernel) (w240_8 hd hx hi hI kk)
    · exact Fr.tsw (q := 553) (off := 520) sw (by decide) rfl (by decide +kernel) (w240_9 hd hx hi hI kk)
    · exact Fr.tsw (q := 586) (off := 553) sw (by decide) rfl (by decide +kernel) (w240_10 hd hx hi hI kk)
    · exact Fr.tsw (q := 619) (off := 586) sw (by decide) rfl (by decide +kernel) (w240_11 hd hx hi hI kk)
    · exact Fr.tsw (q := 652) (off := 619) sw (by decide) rfl (by decide +kernel) (w240_12 hd hx hi hI kk)
    · exact Fr.tsw (q := 665) (off := 632) sw (by decide) rfl (by decide +kernel) (w240_13 hd hx hi hI kk)
    · exact Fr.tsw (q := 708) (off := 675) sw (by decide) rfl (by decide +kernel) (w240_14 hd hx hi hI kk)
    · exact Fr.tsw (q := 721) (off := 688) sw (by decide) rfl (by decide +kernel) (w240_15 hd hx hi hI kk)
    · exact Fr.tsw (q := 734) (off := 701) sw (by decide) rfl (by decide +kernel) (w240_16 hd hx hi hI kk)
    · exact Fr.tsw (q := 767) (off := 734) sw (by decide) rfl (by decide +kernel) (w240_17 hd hx hi hI kk)
    · exact Fr.tsw (q := 800) (off := 767) sw (by decide) rfl (by decide +kernel) (w240_18 hd hx hi hI kk)
    · exact Fr.tsw (q := 823) (off := 790) sw (by decide) rfl (by decide +kernel) (w240_19 hd hx hi hI kk)
    · exact Fr.tsw (q := 846) (off := 813) sw (by decide) rfl (by decide +kernel) (w240_20 hd hx hi hI kk)
    · exact Fr.tsw (q := 869) (off := 836) sw (by decide) rfl (by decide +kernel) (w240_21 hd hx hi hI kk)
    · exact Fr.tsw (q := 902) (off := 869) sw (by decide) rfl (by decide +kernel) (w240_22 hd hx hi hI kk)
    · exact Fr.tsw (q := 915) (off := 882) sw (by decide) rfl (by decide +kernel) (w240_23 hd hx hi hI kk)
    · exact Fr.tsw (q := 928) (off := 895) sw (by decide) rfl (by decide +kernel) (w240_24 hd hx hi hI kk)
    · exact Fr.tsw (q := 961) (off := 928) sw (by decide) rfl (by decide +kernel) (w240_25 hd hx hi hI kk)
    · exact Fr.tsw (q := 984) (off := 951) sw (by decide) rfl (by decide +kernel) (w240_26 hd hx hi hI kk)
    · exact Fr.tsw (q := 997) (off := 964) sw (by decide) rfl (by decide +kernel) (w240_27 hd hx hi hI kk)
    · exact Fr.tsw (q := 1030) (off := 997) sw (by decide) rfl (by decide +kernel) (w240_28 hd hx hi hI kk)
    · exact Fr.tsw (q := 1053) (off := 1020) sw (by decide) rfl (by decide +kernel) (w240_29 hd hx hi hI kk)
    · exact Fr.tsw (q := 1066) (off := 1033) sw (by decide) rfl (by decide +kernel) (w240_30 hd hx hi hI kk)
    · exact Fr.tsw (q := 1109) (off := 1076) sw (by decide) rfl (by decide +kernel) (w240_31 hd hx hi hI kk)
    · exact Fr.tsw (q := 1163) (off := 1130) sw (by decide) rfl (by decide +kernel) (w240_32 hd hx hi hI kk)
    · exact Fr.tsw (q := 1176) (off := 1143) sw (by decide) rfl (by decide +kernel) (w240_33 hd hx hi hI kk)
    · exact Fr.tsw (q := 1189) (off := 1156) sw (by decide) rfl (by decide +kernel) (w240_34 hd hx hi hI kk)
    · exact Fr.tsw (q := 1232) (off := 1199) sw (by decide) rfl (by decide +kernel) (w240_35 hd hx hi hI kk)
    · exact Fr.tsw (q := 1275) (off := 1242) sw (by decide) rfl (by decide +kernel) (w240_36 hd hx hi hI kk)
    · exact Fr.tsw (q := 1338) (off := 1305) sw (by decide) rfl (by decide +kernel) (w240_37 hd hx hi hI kk)
    · exact Fr.tsw (q := 1391) (off := 1358) sw (by decide) rfl (by decide +kernel) (w240_38 hd hx hi hI kk)
theorem l240 (hd : 58 ≤ d) (hx : ∀ j, zR (xs j)) (hL : L ≤ 3584) : ∀ (j : Nat) (i : Int) (s : Pl), 0 ≤ i → i ≤ (L : Int) → (L : Int) - i < 7 * (j : Int) → Inv s → Fr xs L T0 106 d 247 18 [some (rf 100006), some (rf 1), some (rf 73), some (it i)] [] s (qi fun r _ => r = 1) := by
  intro j
  induction j with
  | zero => intro i s h0 h1 h2; omega
  | succ j ih =>
    intro i s h0 h1 h2 hI
    refine Fr.ildn (v := i) (by decide +kernel : zi 247 18 = some (.iload_n 3, 1)) rfl ?_
    refine Fr.aldn (c := 100006) (by decide +kernel : zi 247 19 = some (.aload_n 0, 1)) rfl ⟨by decide, by decide⟩ ?_
    refine Fr.glen (j := 6) (by decide +kernel : zi 247 20 = some (.arraylength, 1)) (by decide) ?_
    refine Fr.bipush (by decide +kernel : zi 247 21 = some (.bipush 7, 2)) (by decide) ?_
    refine Fr.isub (by decide +kernel : zi 247 23 = some (.isub, 1)) ?_
    rw [show (((zgiv xs L 6).1 : Nat) : Int) = ((L : Nat) : Int) from rfl, zw_id (by omega) (by omega)]
    refine Fr.if2 (q := 1430) (by decide +kernel : zi 247 24 = some (.if_icmp .gt 1406, 3)) (by decide +kernel) (fun g => ?_) (fun g => ?_)
    · refine Fr.iconst (by decide +kernel : zi 247 1430 = some (.iconst 1, 1)) (by decide) ?_
      exact Fr.retZ (by decide +kernel : zi 247 1431 = some (.ireturn, 1)) (by decide +kernel) (by decide) rfl
    · have g : ¬ ((L : Int) - 7 < i) := g
      refine Fr.aldn (c := 100006) (by decide +kernel : zi 247 27 = some (.aload_n 0, 1)) rfl ⟨by decide, by decide⟩ ?_
      refine Fr.ildn (v := i) (by decide +kernel : zi 247 28 = some (.iload_n 3, 1)) rfl ?_
      refine Fr.giv (j := 6) (by decide +kernel : zi 247 29 = some (.iaload, 1)) (by decide) h0 (show i < ((L : Nat) : Int) by omega) ?_
      refine Fr.bipush (by decide +kernel : zi 247 30 = some (.bipush 63, 2)) (by decide) ?_
      refine Fr.iand (by decide +kernel : zi 247 32 = some (.iand, 1)) ?_
      refine s240 hd hx ⟨h0, by omega, hL⟩ hI (fun s2 hI2 => ?_)
      refine Fr.iinc (by decide +kernel : zi 247 1424 = some (.iinc 3 7, 3)) (Nat.le_of_ble_eq_true rfl) rfl rfl ?_
      refine Fr.goto (q := 18) (by decide +kernel : zi 247 1427 = some (.goto (-1409), 3)) (by decide +kernel) ?_
      have z : zw (i + 7) = i + 7 := zw_id (by omega) (by omega)
      rw [z]
      exact ih (i + 7) s2 (by omega) (by omega) (by omega) hI2
end LAWL
