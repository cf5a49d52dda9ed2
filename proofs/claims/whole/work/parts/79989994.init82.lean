/-! the class's own constructor, but for the text it reads -/
section INI3
variable {xs : Nat → Int} {L d : Nat}
def pl82 : List (Nat × Option (Int × Int)) := [(1, none), (2, none), (1, some (3, 3)), (3, none), (1, some (4, 4)), (4, none), (1, some (5, 5)), (5, none), (1, some (6, 6)), (6, none), (1, some (7, 7)), (7, none), (1, some (8, 8)), (8, none), (1, some (9, 9)), (9, none), (1, some (10, 10)), (9, some (0, 0)), (9, some (1, 1)), (9, some (2, 2)), (9, some (3, 3)), (9, some (4, 1)), (9, some (5, 0)), (9, some (6, 1)), (9, some (7, 2)), (9, some (8, 2)), (9, some (9, 1)), (9, some (10, 0)), (9, some (11, 1)), (9, some (12, 3)), (9, some (13, 2)), (9, some (14, 1)), (9, some (15, 0)), (0, some (0, 2)), (10, none), (11, none), (10, some (3, 12)), (12, none), (10, some (4, 13)), (13, none), (10, some (5, 14)), (14, none), (10, some (6, 15)), (15, none), (10, some (7, 16)), (16, none), (10, some (8, 17)), (17, none), (10, some (9, 18)), (18, none), (10, some (10, 19)), (18, some (0, 0)), (18, some (1, 1)), (18, some (2, 2)), (18, some (3, 3)), (18, some (4, 1)), (18, some (5, 0)), (18, some (6, 1)), (18, some (7, 2)), (18, some (8, 2)), (18, some (9, 1)), (18, some (10, 0)), (18, some (11, 1)), (18, some (12, 3)), (18, some (13, 2)), (18, some (14, 1)), (18, some (15, 0)), (0, some (1, 11)), (19, none), (0, some (3, 20)), (20, none), (0, some (10, 21)), (21, none), (22, none), (21, some (0, 23)), (23, none), (21, some (1, 24)), (24, none), (21, some (2, 25)), (19, some (0, 22)), (25, none), (26, none), (25, some (0, 27)), (27, none), (25, some (1, 28)), (28, none), (25, some (2, 29)), (19, some (1, 26)), (29, none), (30, none), (29, some (0, 31)), (31, none), (29, some (1, 32)), (32, none), (29, some (2, 33)), (19, some (2, 30)), (33, none), (34, none), (33, some (0, 35)), (35, none), (33, some (1, 36)), (36, none), (33, some (2, 37)), (19, some (3, 34)), (37, none), (38, none), (37, some (0, 39)), (39, none), (37, some (1, 40)), (40, none), (37, some (2, 41)), (19, some (4, 38)), (41, none), (42, none), (41, some (0, 43)), (43, none), (41, some (1, 44)), (44, none), (41, some (2, 45)), (19, some (5, 42)), (45, none), (45, some (0, (-1))), (46, none), (45, some (2, 47)), (20, some (0, 46)), (47, none), (47, some (0, (-1))), (48, none), (47, some (2, 49)), (20, some (1, 48)), (49, none), (49, some (0, (-1))), (50, none), (49, some (2, 51)), (20, some (2, 50)), (51, none), (51, some (0, (-1))), (52, none), (51, some (2, 53)), (20, some (3, 52)), (53, none), (54, none), (53, some (0, 55)), (55, none), (53, some (2, 56)), (56, none), (53, some (3, 57)), (53, some (8, 22)), (0, some (5, 54))]
theorem k82a {s : Pl} {Q : Option AV → Nat → Pl → Prop} (hd : 3 ≤ d) (h : Gr xs L d 82 122 [some (rf 1), some (it 0)] [] 57 (pap s pl82) Q) : Gr xs L d 82 0 [some (rf 1), none] [] 1 s Q := by
  refine Cr.aldn (c := 1) (by decide +kernel : zi 82 0 = some (.aload_n 0, 1)) rfl ⟨by decide, by decide⟩ ?_
  refine Cr.oinit (c := 1) (by decide +kernel : zi 82 1 = some (.invokespecial 1, 3)) (by decide +kernel) (by decide +kernel) ⟨by decide, by decide⟩ (Nat.le_of_ble_eq_true rfl) ?_
  refine Cr.aldn (c := 1) (by decide +kernel : zi 82 4 = some (.aload_n 0, 1)) rfl ⟨by decide, by decide⟩ ?_
  refine Cr.newo (n2 := 2) (ci := 0) (by decide +kernel : zi 82 5 = some (.new 7, 3)) (by decide +kernel) (by decide +kernel) (by decide) rfl ?_
  refine Cr.dup (by decide +kernel : zi 82 8 = some (.dup, 1)) rfl ?_
  refine Cr.callK (N := 10) (y2 := 0) (na := 1) (as := [rf 2]) (rest := [rf 2, rf 1]) (by decide +kernel : zi 82 9 = some (.invokespecial 9, 3)) rfl (by decide +kernel) (by decide +kernel) rfl rfl (zok_I rfl (by decide) (by decide +kernel) (by decide +kernel) (zrecv_c (c := 1) (by decide) (by decide +kernel)) rfl (Nat.le_of_ble_eq_true rfl)) (k0_2 (by omega) ⟨rfl, rfl, rfl⟩) ?_
  refine Cr.putR (c := 0) (w := 2) (ci := 7) (k := 0) 0 2 (by decide +kernel : zi 82 12 = some (.putfield 10, 3)) (by decide +kernel) (by decide +kernel) (by decide +kernel) (by decide) (by decide) (Or.inr ⟨by decide +kernel, by decide +kernel⟩) rfl rfl ?_
  refine Cr.aldn (c := 1) (by decide +kernel : zi 82 15 = some (.aload_n 0, 1)) rfl ⟨by decide, by decide⟩ ?_
  refine Cr.newo (n2 := 11) (ci := 0) (by decide +kernel : zi 82 16 = some (.new 7, 3)) (by decide +kernel) (by decide +kernel) (by decide) rfl ?_
  refine Cr.dup (by decide +kernel : zi 82 19 = some (.dup, 1)) rfl ?_
  refine Cr.callK (N := 19) (y2 := 0) (na := 1) (as := [rf 11]) (rest := [rf 11, rf 1]) (by decide +kernel : zi 82 20 = some (.invokespecial 9, 3)) rfl (by decide +kernel) (by decide +kernel) rfl rfl (zok_I rfl (by decide) (by decide +kernel) (by decide +kernel) (zrecv_c (c := 10) (by decide) (by decide +kernel)) rfl (Nat.le_of_ble_eq_true rfl)) (k0_11 (by omega) ⟨rfl, rfl, rfl⟩) ?_
  refine Cr.putR (c := 0) (w := 11) (ci := 7) (k := 1) 1 11 (by decide +kernel : zi 82 23 = some (.putfield 16, 3)) (by decide +kernel) (by decide +kernel) (by decide +kernel) (by decide) (by decide) (Or.inr ⟨by decide +kernel, by decide +kernel⟩) rfl rfl ?_
  refine Cr.aldn (c := 1) (by decide +kernel : zi 82 26 = some (.aload_n 0, 1)) rfl ⟨by decide, by decide⟩ ?_
  refine Cr.bipush (by decide +kernel : zi 82 27 = some (.bipush 6, 2)) (by decide) ?_
  refine Cr.anew (n2 := 20) (ci := 1) (kd := 23) (k := 6) (by decide +kernel : zi 82 29 = some (.anewarray 19, 3)) (by decide +kernel) (by decide +kernel) (by decide) (by decide) rfl ?_
  refine Cr.putR (c := 0) (w := 20) (ci := 7) (k := 3) 3 20 (by decide +kernel : zi 82 32 = some (.putfield 21, 3)) (by decide +kernel) (by decide +kernel) (by decide +kernel) (by decide) (by decide) (Or.inr ⟨by decide +kernel, by decide +kernel⟩) rfl rfl ?_
  refine Cr.aldn (c := 1) (by decide +kernel : zi 82 35 = some (.aload_n 0, 1)) rfl ⟨by decide, by decide⟩ ?_
  refine Cr.iconst (by decide +kernel : zi 82 36 = some (.iconst 4, 1)) (by decide) ?_
  refine Cr.anew (n2 := 21) (ci := 5) (kd := 24) (k := 4) (by decide +kernel : zi 82 37 = some (.anewarray 25, 3)) (by decide +kernel) (by decide +kernel) (by decide) (by decide) rfl ?_
  refine Cr.putR (c := 0) (w := 21) (ci := 7) (k := 10) 10 21 (by decide +kernel : zi 82 40 = some (.putfield 27, 3)) (by decide +kernel) (by decide +kernel) (by decide +kernel) (by decide) (by decide) (Or.inr ⟨by decide +kernel, by decide +kernel⟩) rfl rfl ?_
  refine Cr.iconst (by decide +kernel : zi 82 43 = some (.iconst 0, 1)) (by decide) ?_
  refine Cr.istn (lv2 := [some (rf 1), some (it 0)]) (by decide +kernel : zi 82 44 = some (.istore_n 1, 1)) (Nat.le_of_ble_eq_true rfl) rfl ?_
  refine Cr.ildn (v := 0) (by decide +kernel : zi 82 45 = some (.iload_n 1, 1)) rfl ?_
  refine Cr.aldn (c := 1) (by decide +kernel : zi 82 46 = some (.aload_n 0, 1)) rfl ⟨by decide, by decide⟩ ?_
  refine Cr.getR (c := 0) (c2 := 20) (ci := 7) (k := 3) 3 (by decide +kernel : zi 82 47 = some (.getfield 21, 3)) (by decide +kernel) rfl (by decide +kernel) (by decide +kernel) (by decide) rfl (by rfl) ?_
  refine Cr.alen (c := 19) (K := 23) (N := 6) (v := 6) (by decide +kernel : zi 82 50 = some (.arraylength, 1)) (by decide +kernel) (by decide) (by decide) rfl ?_
  refine Cr.if2f (q := 73) (by decide +kernel : zi 82 51 = some (.if_icmp .ge 22, 3)) (by decide +kernel) (show ¬ (6 : Int) ≤ 0 by decide) ?_
  refine Cr.aldn (c := 1) (by decide +kernel : zi 82 54 = some (.aload_n 0, 1)) rfl ⟨by decide, by decide⟩ ?_
  refine Cr.getR (c := 0) (c2 := 20) (ci := 7) (k := 3) 3 (by decide +kernel : zi 82 55 = some (.getfield 21, 3)) (by decide +kernel) rfl (by decide +kernel) (by decide +kernel) (by decide) rfl (by rfl) ?_
  refine Cr.ildn (v := 0) (by decide +kernel : zi 82 58 = some (.iload_n 1, 1)) rfl ?_
  refine Cr.newo (n2 := 22) (ci := 1) (by decide +kernel : zi 82 59 = some (.new 19, 3)) (by decide +kernel) (by decide +kernel) (by decide) rfl ?_
  refine Cr.dup (by decide +kernel : zi 82 62 = some (.dup, 1)) rfl ?_
  refine Cr.callK (N := 25) (y2 := 9) (na := 1) (as := [rf 22]) (rest := [rf 22, it 0, rf 20]) (by decide +kernel : zi 82 63 = some (.invokespecial 31, 3)) rfl (by decide +kernel) (by decide +kernel) rfl rfl (zok_I rfl (by decide) (by decide +kernel) (by decide +kernel) (zrecv_c (c := 21) (by decide) (by decide +kernel)) rfl (Nat.le_of_ble_eq_true rfl)) (k9_22 (by omega) ⟨rfl, rfl, rfl⟩) ?_
  refine Cr.aast (c := 19) (w := 22) (K := 23) (N := 6) 22 (by decide +kernel : zi 82 66 = some (.aastore, 1)) (by decide +kernel) (by decide) (by decide) (by decide +kernel) (by decide) (by decide) rfl ?_
  refine Cr.iinc (v := 0) (lv2 := [some (rf 1), some (it 1)]) (by decide +kernel : zi 82 67 = some (.iinc 1 1, 3)) (Nat.le_of_ble_eq_true rfl) rfl (by decide +kernel) ?_
  refine Cr.goto (q := 45) (by decide +kernel : zi 82 70 = some (.goto (-25), 3)) (by decide +kernel) ?_
  refine Cr.ildn (v := 1) (by decide +kernel : zi 82 45 = some (.iload_n 1, 1)) rfl ?_
  refine Cr.aldn (c := 1) (by decide +kernel : zi 82 46 = some (.aload_n 0, 1)) rfl ⟨by decide, by decide⟩ ?_
  refine Cr.getR (c := 0) (c2 := 20) (ci := 7) (k := 3) 3 (by decide +kernel : zi 82 47 = some (.getfield 21, 3)) (by decide +kernel) rfl (by decide +kernel) (by decide +kernel) (by decide) rfl (by rfl) ?_
  refine Cr.alen (c := 19) (K := 23) (N := 6) (v := 6) (by decide +kernel : zi 82 50 = some (.arraylength, 1)) (by decide +kernel) (by decide) (by decide) rfl ?_
  refine Cr.if2f (q := 73) (by decide +kernel : zi 82 51 = some (.if_icmp .ge 22, 3)) (by decide +kernel) (show ¬ (6 : Int) ≤ 1 by decide) ?_
  refine Cr.aldn (c := 1) (by decide +kernel : zi 82 54 = some (.aload_n 0, 1)) rfl ⟨by decide, by decide⟩ ?_
  refine Cr.getR (c := 0) (c2 := 20) (ci := 7) (k := 3) 3 (by decide +kernel : zi 82 55 = some (.getfield 21, 3)) (by decide +kernel) rfl (by decide +kernel) (by decide +kernel) (by decide) rfl (by rfl) ?_
  refine Cr.ildn (v := 1) (by decide +kernel : zi 82 58 = some (.iload_n 1, 1)) rfl ?_
  refine Cr.newo (n2 := 26) (ci := 1) (by decide +kernel : zi 82 59 = some (.new 19, 3)) (by decide +kernel) (by decide +kernel) (by decide) rfl ?_
  refine Cr.dup (by decide +kernel : zi 82 62 = some (.dup, 1)) rfl ?_
  refine Cr.callK (N := 29) (y2 := 9) (na := 1) (as := [rf 26]) (rest := [rf 26, it 1, rf 20]) (by decide +kernel : zi 82 63 = some (.invokespecial 31, 3)) rfl (by decide +kernel) (by decide +kernel) rfl rfl (zok_I rfl (by decide) (by decide +kernel) (by decide +kernel) (zrecv_c (c := 25) (by decide) (by decide +kernel)) rfl (Nat.le_of_ble_eq_true rfl)) (k9_26 (by omega) ⟨rfl, rfl, rfl⟩) ?_
  refine Cr.aast (c := 19) (w := 26) (K := 23) (N := 6) 26 (by decide +kernel : zi 82 66 = some (.aastore, 1)) (by decide +kernel) (by decide) (by decide) (by decide +kernel) (by decide) (by decide) rfl ?_
  refine Cr.iinc (v := 1) (lv2 := [some (rf 1), some (it 2)]) (by decide +kernel : zi 82 67 = some (.iinc 1 1, 3)) (Nat.le_of_ble_eq_true rfl) rfl (by decide +kernel) ?_
  refine Cr.goto (q := 45) (by decide +kernel : zi 82 70 = some (.goto (-25), 3)) (by decide +kernel) ?_
  refine Cr.ildn (v := 2) (by decide +kernel : zi 82 45 = some (.iload_n 1, 1)) rfl ?_
  refine Cr.aldn (c := 1) (by decide +kernel : zi 82 46 = some (.aload_n 0, 1)) rfl ⟨by decide, by decide⟩ ?_
  refine Cr.getR (c := 0) (c2 := 20) (ci := 7) (k := 3) 3 (by decide +kernel : zi 82 47 = some (.getfield 21, 3)) (by decide +kernel) rfl (by decide +kernel) (by decide +kernel) (by decide) rfl (by rfl) ?_
  refine Cr.alen (c := 19) (K := 23) (N := 6) (v := 6) (by decide +kernel : zi 82 50 = some (.arraylength, 1)) (by decide +kernel) (by decide) (by decide) rfl ?_
  refine Cr.if2f (q := 73) (by decide +kernel : zi 82 51 = some (.if_icmp .ge 22, 3)) (by decide +kernel) (show ¬ (6 : Int) ≤ 2 by decide) ?_
  refine Cr.aldn (c := 1) (by decide +kernel : zi 82 54 = some (.aload_n 0, 1)) rfl ⟨by decide, by decide⟩ ?_
  refine Cr.getR (c := 0) (c2 := 20) (ci := 7) (k := 3) 3 (by decide +kernel : zi 82 55 = some (.getfield 21, 3)) (by decide +kernel) rfl (by decide +kernel) (by decide +kernel) (by decide) rfl (by rfl) ?_
  refine Cr.ildn (v := 2) (by decide +kernel : zi 82 58 = some (.iload_n 1, 1)) rfl ?_
  refine Cr.newo (n2 := 30) (ci := 1) (by decide +kernel : zi 82 59 = some (.new 19, 3)) (by decide +kernel) (by decide +kernel) (by decide) rfl ?_
  refine Cr.dup (by decide +kernel : zi 82 62 = some (.dup, 1)) rfl ?_
  refine Cr.callK (N := 33) (y2 := 9) (na := 1) (as := [rf 30]) (rest := [rf 30, it 2, rf 20]) (by decide +kernel : zi 82 63 = some (.invokespecial 31, 3)) rfl (by decide +kernel) (by decide +kernel) rfl rfl (zok_I rfl (by decide) (by decide +kernel) (by decide +kernel) (zrecv_c (c := 29) (by decide) (by decide +kernel)) rfl (Nat.le_of_ble_eq_true rfl)) (k9_30 (by omega) ⟨rfl, rfl, rfl⟩) ?_
  refine Cr.aast (c := 19) (w := 30) (K := 23) (N := 6) 30 (by decide +kernel : zi 82 66 = some (.aastore, 1)) (by decide +kernel) (by decide) (by decide) (by decide +kernel) (by decide) (by decide) rfl ?_
  refine Cr.iinc (v := 2) (lv2 := [some (rf 1), some (it 3)]) (by decide +kernel : zi 82 67 = some (.iinc 1 1, 3)) (Nat.le_of_ble_eq_true rfl) rfl (by decide +kernel) ?_
  refine Cr.goto (q := 45) (by decide +kernel : zi 82 70 = some (.goto (-25), 3)) (by decide +kernel) ?_
  refine Cr.ildn (v := 3) (by decide +kernel : zi 82 45 = some (.iload_n 1, 1)) rfl ?_
  refine Cr.aldn (c := 1) (by decide +kernel : zi 82 46 = some (.aload_n 0, 1)) rfl ⟨by decide, by decide⟩ ?_
  refine Cr.getR (c := 0) (c2 := 20) (ci := 7) (k := 3) 3 (by decide +kernel : zi 82 47 = some (.getfield 21, 3)) (by decide +kernel) rfl (by decide +kernel) (by decide +kernel) (by decide) rfl (by rfl) ?_
  refine Cr.alen (c := 19) (K := 23) (N := 6) (v := 6) (by decide +kernel : zi 82 50 = some (.arraylength, 1)) (by decide +kernel) (by decide) (by decide) rfl ?_
  refine Cr.if2f (q := 73) (by decide +kernel : zi 82 51 = some (.if_icmp .ge 22, 3)) (by decide +kernel) (show ¬ (6 : Int) ≤ 3 by decide) ?_
  refine Cr.aldn (c := 1) (by decide +kernel : zi 82 54 = some (.aload_n 0, 1)) rfl ⟨by decide, by decide⟩ ?_
  refine Cr.getR (c := 0) (c2 := 20) (ci := 7) (k := 3) 3 (by decide +kernel : zi 82 55 = some (.getfield 21, 3)) (by decide +kernel) rfl (by decide +kernel) (by decide +kernel) (by decide) rfl (by rfl) ?_
  refine Cr.ildn (v := 3) (by decide +kernel : zi 82 58 = some (.iload_n 1, 1)) rfl ?_
  refine Cr.newo (n2 := 34) (ci := 1) (by decide +kernel : zi 82 59 = some (.new 19, 3)) (by decide +kernel) (by decide +kernel) (by decide) rfl ?_
  refine Cr.dup (by decide +kernel : zi 82 62 = some (.dup, 1)) rfl ?_
  refine Cr.callK (N := 37) (y2 := 9) (na := 1) (as := [rf 34]) (rest := [rf 34, it 3, rf 20]) (by decide +kernel : zi 82 63 = some (.invokespecial 31, 3)) rfl (by decide +kernel) (by decide +kernel) rfl rfl (zok_I rfl (by decide) (by decide +kernel) (by decide +kernel) (zrecv_c (c := 33) (by decide) (by decide +kernel)) rfl (Nat.le_of_ble_eq_true rfl)) (k9_34 (by omega) ⟨rfl, rfl, rfl⟩) ?_
  refine Cr.aast (c := 19) (w := 34) (K := 23) (N := 6) 34 (by decide +kernel : zi 82 66 = some (.aastore, 1)) (by decide +kernel) (by decide) (by decide) (by decide +kernel) (by decide) (by decide) rfl ?_
  refine Cr.iinc (v := 3) (lv2 := [some (rf 1), some (it 4)]) (by decide +kernel : zi 82 67 = some (.iinc 1 1, 3)) (Nat.le_of_ble_eq_true rfl) rfl (by decide +kernel) ?_
  refine Cr.goto (q := 45) (by decide +kernel : zi 82 70 = some (.goto (-25), 3)) (by decide +kernel) ?_
  refine Cr.ildn (v := 4) (by decide +kernel : zi 82 45 = some (.iload_n 1, 1)) rfl ?_
  refine Cr.aldn (c := 1) (by decide +kernel : zi 82 46 = some (.aload_n 0, 1)) rfl ⟨by decide, by decide⟩ ?_
  refine Cr.getR (c := 0) (c2 := 20) (ci := 7) (k := 3) 3 (by decide +kernel : zi 82 47 = some (.getfield 21, 3)) (by decide +kernel) rfl (by decide +kernel) (by decide +kernel) (by decide) rfl (by rfl) ?_
  refine Cr.alen (c := 19) (K := 23) (N := 6) (v := 6) (by decide +kernel : zi 82 50 = some (.arraylength, 1)) (by decide +kernel) (by decide) (by decide) rfl ?_
  refine Cr.if2f (q := 73) (by decide +kernel : zi 82 51 = some (.if_icmp .ge 22, 3)) (by decide +kernel) (show ¬ (6 : Int) ≤ 4 by decide) ?_
  refine Cr.aldn (c := 1) (by decide +kernel : zi 82 54 = some (.aload_n 0, 1)) rfl ⟨by decide, by decide⟩ ?_
  refine Cr.getR (c := 0) (c2 := 20) (ci := 7) (k := 3) 3 (by decide +kernel : zi 82 55 = some (.getfield 21, 3)) (by decide +kernel) rfl (by decide +kernel) (by decide +kernel) (by decide) rfl (by rfl) ?_
  refine Cr.ildn (v := 4) (by decide +kernel : zi 82 58 = some (.iload_n 1, 1)) rfl ?_
  refine Cr.newo (n2 := 38) (ci := 1) (by decide +kernel : zi 82 59 = some (.new 19, 3)) (by decide +kernel) (by decide +kernel) (by decide) rfl ?_
  refine Cr.dup (by decide +kernel : zi 82 62 = some (.dup, 1)) rfl ?_
  refine Cr.callK (N := 41) (y2 := 9) (na := 1) (as := [rf 38]) (rest := [rf 38, it 4, rf 20]) (by decide +kernel : zi 82 63 = some (.invokespecial 31, 3)) rfl (by decide +kernel) (by decide +kernel) rfl rfl (zok_I rfl (by decide) (by decide +kernel) (by decide +kernel) (zrecv_c (c := 37) (by decide) (by decide +kernel)) rfl (Nat.le_of_ble_eq_true rfl)) (k9_38 (by omega) ⟨rfl, rfl, rfl⟩) ?_
  refine Cr.aast (c := 19) (w := 38) (K := 23) (N := 6) 38 (by decide +kernel : zi 82 66 = some (.aastore, 1)) (by decide +kernel) (by decide) (by decide) (by decide +kernel) (by decide) (by decide) rfl ?_
  refine Cr.iinc (v := 4) (lv2 := [some (rf 1), some (it 5)]) (by decide +kernel : zi 82 67 = some (.iinc 1 1, 3)) (Nat.le_of_ble_eq_true rfl) rfl (by decide +kernel) ?_
  refine Cr.goto (q := 45) (by decide +kernel : zi 82 70 = some (.goto (-25), 3)) (by decide +kernel) ?_
  refine Cr.ildn (v := 5) (by decide +kernel : zi 82 45 = some (.iload_n 1, 1)) rfl ?_
  refine Cr.aldn (c := 1) (by decide +kernel : zi 82 46 = some (.aload_n 0, 1)) rfl ⟨by decide, by decide⟩ ?_
  refine Cr.getR (c := 0) (c2 := 20) (ci := 7) (k := 3) 3 (by decide +kernel : zi 82 47 = some (.getfield 21, 3)) (by decide +kernel) rfl (by decide +kernel) (by decide +kernel) (by decide) rfl (by rfl) ?_
  refine Cr.alen (c := 19) (K := 23) (N := 6) (v := 6) (by decide +kernel : zi 82 50 = some (.arraylength, 1)) (by decide +kernel) (by decide) (by decide) rfl ?_
  refine Cr.if2f (q := 73) (by decide +kernel : zi 82 51 = some (.if_icmp .ge 22, 3)) (by decide +kernel) (show ¬ (6 : Int) ≤ 5 by decide) ?_
  refine Cr.aldn (c := 1) (by decide +kernel : zi 82 54 = some (.aload_n 0, 1)) rfl ⟨by decide, by decide⟩ ?_
  refine Cr.getR (c := 0) (c2 := 20) (ci := 7) (k := 3) 3 (by decide +kernel : zi 82 55 = some (.getfield 21, 3)) (by decide +kernel) rfl (by decide +kernel) (by decide +kernel) (by decide) rfl (by rfl) ?_
  refine Cr.ildn (v := 5) (by decide +kernel : zi 82 58 = some (.iload_n 1, 1)) rfl ?_
  refine Cr.newo (n2 := 42) (ci := 1) (by decide +kernel : zi 82 59 = some (.new 19, 3)) (by decide +kernel) (by decide +kernel) (by decide) rfl ?_
  refine Cr.dup (by decide +kernel : zi 82 62 = some (.dup, 1)) rfl ?_
  refine Cr.callK (N := 45) (y2 := 9) (na := 1) (as := [rf 42]) (rest := [rf 42, it 5, rf 20]) (by decide +kernel : zi 82 63 = some (.invokespecial 31, 3)) rfl (by decide +kernel) (by decide +kernel) rfl rfl (zok_I rfl (by decide) (by decide +kernel) (by decide +kernel) (zrecv_c (c := 41) (by decide) (by decide +kernel)) rfl (Nat.le_of_ble_eq_true rfl)) (k9_42 (by omega) ⟨rfl, rfl, rfl⟩) ?_
  refine Cr.aast (c := 19) (w := 42) (K := 23) (N := 6) 42 (by decide +kernel : zi 82 66 = some (.aastore, 1)) (by decide +kernel) (by decide) (by decide) (by decide +kernel) (by decide) (by decide) rfl ?_
  refine Cr.iinc (v := 5) (lv2 := [some (rf 1), some (it 6)]) (by decide +kernel : zi 82 67 = some (.iinc 1 1, 3)) (Nat.le_of_ble_eq_true rfl) rfl (by decide +kernel) ?_
  refine Cr.goto (q := 45) (by decide +kernel : zi 82 70 = some (.goto (-25), 3)) (by decide +kernel) ?_
  refine Cr.ildn (v := 6) (by decide +kernel : zi 82 45 = some (.iload_n 1, 1)) rfl ?_
  refine Cr.aldn (c := 1) (by decide +kernel : zi 82 46 = some (.aload_n 0, 1)) rfl ⟨by decide, by decide⟩ ?_
  refine Cr.getR (c := 0) (c2 := 20) (ci := 7) (k := 3) 3 (by decide +kernel : zi 82 47 = some (.getfield 21, 3)) (by decide +kernel) rfl (by decide +kernel) (by decide +kernel) (by decide) rfl (by rfl) ?_
  refine Cr.alen (c := 19) (K := 23) (N := 6) (v := 6) (by decide +kernel : zi 82 50 = some (.arraylength, 1)) (by decide +kernel) (by decide) (by decide) rfl ?_
  refine Cr.if2t (q := 73) (by decide +kernel : zi 82 51 = some (.if_icmp .ge 22, 3)) (by decide +kernel) (show (6 : Int) ≤ 6 by decide) ?_
  refine Cr.iconst (by decide +kernel : zi 82 73 = some (.iconst 0, 1)) (by decide) ?_
  refine Cr.istn (lv2 := [some (rf 1), some (it 0)]) (by decide +kernel : zi 82 74 = some (.istore_n 1, 1)) (Nat.le_of_ble_eq_true rfl) rfl ?_
  refine Cr.ildn (v := 0) (by decide +kernel : zi 82 75 = some (.iload_n 1, 1)) rfl ?_
  refine Cr.aldn (c := 1) (by decide +kernel : zi 82 76 = some (.aload_n 0, 1)) rfl ⟨by decide, by decide⟩ ?_
  refine Cr.getR (c := 0) (c2 := 21) (ci := 7) (k := 10) 10 (by decide +kernel : zi 82 77 = some (.getfield 27, 3)) (by decide +kernel) rfl (by decide +kernel) (by decide +kernel) (by decide) rfl (by rfl) ?_
  refine Cr.alen (c := 20) (K := 24) (N := 4) (v := 4) (by decide +kernel : zi 82 80 = some (.arraylength, 1)) (by decide +kernel) (by decide) (by decide) rfl ?_
  refine Cr.if2f (q := 103) (by decide +kernel : zi 82 81 = some (.if_icmp .ge 22, 3)) (by decide +kernel) (show ¬ (4 : Int) ≤ 0 by decide) ?_
  refine Cr.aldn (c := 1) (by decide +kernel : zi 82 84 = some (.aload_n 0, 1)) rfl ⟨by decide, by decide⟩ ?_
  refine Cr.getR (c := 0) (c2 := 21) (ci := 7) (k := 10) 10 (by decide +kernel : zi 82 85 = some (.getfield 27, 3)) (by decide +kernel) rfl (by decide +kernel) (by decide +kernel) (by decide) rfl (by rfl) ?_
  refine Cr.ildn (v := 0) (by decide +kernel : zi 82 88 = some (.iload_n 1, 1)) rfl ?_
  refine Cr.newo (n2 := 46) (ci := 5) (by decide +kernel : zi 82 89 = some (.new 25, 3)) (by decide +kernel) (by decide +kernel) (by decide) rfl ?_
  refine Cr.dup (by decide +kernel : zi 82 92 = some (.dup, 1)) rfl ?_
  refine Cr.callK (N := 47) (y2 := 66) (na := 1) (as := [rf 46]) (rest := [rf 46, it 0, rf 21]) (by decide +kernel : zi 82 93 = some (.invokespecial 32, 3)) rfl (by decide +kernel) (by decide +kernel) rfl rfl (zok_I rfl (by decide) (by decide +kernel) (by decide +kernel) (zrecv_c (c := 45) (by decide) (by decide +kernel)) rfl (Nat.le_of_ble_eq_true rfl)) (k66_46 (by omega) ⟨rfl, rfl, rfl⟩) ?_
  refine Cr.aast (c := 20) (w := 46) (K := 24) (N := 4) 46 (by decide +kernel : zi 82 96 = some (.aastore, 1)) (by decide +kernel) (by decide) (by decide) (by decide +kernel) (by decide) (by decide) rfl ?_
  refine Cr.iinc (v := 0) (lv2 := [some (rf 1), some (it 1)]) (by decide +kernel : zi 82 97 = some (.iinc 1 1, 3)) (Nat.le_of_ble_eq_true rfl) rfl (by decide +kernel) ?_
  refine Cr.goto (q := 75) (by decide +kernel : zi 82 100 = some (.goto (-25), 3)) (by decide +kernel) ?_
  refine Cr.ildn (v := 1) (by decide +kernel : zi 82 75 = some (.iload_n 1, 1)) rfl ?_
  refine Cr.aldn (c := 1) (by decide +kernel : zi 82 76 = some (.aload_n 0, 1)) rfl ⟨by decide, by decide⟩ ?_
  refine Cr.getR (c := 0) (c2 := 21) (ci := 7) (k := 10) 10 (by decide +kernel : zi 82 77 = some (.getfield 27, 3)) (by decide +kernel) rfl (by decide +kernel) (by decide +kernel) (by decide) rfl (by rfl) ?_
  refine Cr.alen (c := 20) (K := 24) (N := 4) (v := 4) (by decide +kernel : zi 82 80 = some (.arraylength, 1)) (by decide +kernel) (by decide) (by decide) rfl ?_
  refine Cr.if2f (q := 103) (by decide +kernel : zi 82 81 = some (.if_icmp .ge 22, 3)) (by decide +kernel) (show ¬ (4 : Int) ≤ 1 by decide) ?_
  refine Cr.aldn (c := 1) (by decide +kernel : zi 82 84 = some (.aload_n 0, 1)) rfl ⟨by decide, by decide⟩ ?_
  refine Cr.getR (c := 0) (c2 := 21) (ci := 7) (k := 10) 10 (by decide +kernel : zi 82 85 = some (.getfield 27, 3)) (by decide +kernel) rfl (by decide +kernel) (by decide +kernel) (by decide) rfl (by rfl) ?_
  refine Cr.ildn (v := 1) (by decide +kernel : zi 82 88 = some (.iload_n 1, 1)) rfl ?_
  refine Cr.newo (n2 := 48) (ci := 5) (by decide +kernel : zi 82 89 = some (.new 25, 3)) (by decide +kernel) (by decide +kernel) (by decide) rfl ?_
  refine Cr.dup (by decide +kernel : zi 82 92 = some (.dup, 1)) rfl ?_
  refine Cr.callK (N := 49) (y2 := 66) (na := 1) (as := [rf 48]) (rest := [rf 48, it 1, rf 21]) (by decide +kernel : zi 82 93 = some (.invokespecial 32, 3)) rfl (by decide +kernel) (by decide +kernel) rfl rfl (zok_I rfl (by decide) (by decide +kernel) (by decide +kernel) (zrecv_c (c := 47) (by decide) (by decide +kernel)) rfl (Nat.le_of_ble_eq_true rfl)) (k66_48 (by omega) ⟨rfl, rfl, rfl⟩) ?_
  refine Cr.aast (c := 20) (w := 48) (K := 24) (N := 4) 48 (by decide +kernel : zi 82 96 = some (.aastore, 1)) (by decide +kernel) (by decide) (by decide) (by decide +kernel) (by decide) (by decide) rfl ?_
  refine Cr.iinc (v := 1) (lv2 := [some (rf 1), some (it 2)]) (by decide +kernel : zi 82 97 = some (.iinc 1 1, 3)) (Nat.le_of_ble_eq_true rfl) rfl (by decide +kernel) ?_
  refine Cr.goto (q := 75) (by decide +kernel : zi 82 100 = some (.goto (-25), 3)) (by decide +kernel) ?_
  refine Cr.ildn (v := 2) (by decide +kernel : zi 82 75 = some (.iload_n 1, 1)) rfl ?_
  refine Cr.aldn (c := 1) (by decide +kernel : zi 82 76 = some (.aload_n 0, 1)) rfl ⟨by decide, by decide⟩ ?_
  refine Cr.getR (c := 0) (c2 := 21) (ci := 7) (k := 10) 10 (by decide +kernel : zi 82 77 = some (.getfield 27, 3)) (by decide +kernel) rfl (by decide +kernel) (by decide +kernel) (by decide) rfl (by rfl) ?_
  refine Cr.alen (c := 20) (K := 24) (N := 4) (v := 4) (by decide +kernel : zi 82 80 = some (.arraylength, 1)) (by decide +kernel) (by decide) (by decide) rfl ?_
  refine Cr.if2f (q := 103) (by decide +kernel : zi 82 81 = some (.if_icmp .ge 22, 3)) (by decide +kernel) (show ¬ (4 : Int) ≤ 2 by decide) ?_
  refine Cr.aldn (c := 1) (by decide +kernel : zi 82 84 = some (.aload_n 0, 1)) rfl ⟨by decide, by decide⟩ ?_
  refine Cr.getR (c := 0) (c2 := 21) (ci := 7) (k := 10) 10 (by decide +kernel : zi 82 85 = some (.getfield 27, 3)) (by decide +kernel) rfl (by decide +kernel) (by decide +kernel) (by decide) rfl (by rfl) ?_
  refine Cr.ildn (v := 2) (by decide +kernel : zi 82 88 = some (.iload_n 1, 1)) rfl ?_
  refine Cr.newo (n2 := 50) (ci := 5) (by decide +kernel : zi 82 89 = some (.new 25, 3)) (by decide +kernel) (by decide +kernel) (by decide) rfl ?_
  refine Cr.dup (by decide +kernel : zi 82 92 = some (.dup, 1)) rfl ?_
  refine Cr.callK (N := 51) (y2 := 66) (na := 1) (as := [rf 50]) (rest := [rf 50, it 2, rf 21]) (by decide +kernel : zi 82 93 = some (.invokespecial 32, 3)) rfl (by decide +kernel) (by decide +kernel) rfl rfl (zok_I rfl (by decide) (by decide +kernel) (by decide +kernel) (zrecv_c (c := 49) (by decide) (by decide +kernel)) rfl (Nat.le_of_ble_eq_true rfl)) (k66_50 (by omega) ⟨rfl, rfl, rfl⟩) ?_
  refine Cr.aast (c := 20) (w := 50) (K := 24) (N := 4) 50 (by decide +kernel : zi 82 96 = some (.aastore, 1)) (by decide +kernel) (by decide) (by decide) (by decide +kernel) (by decide) (by decide) rfl ?_
  refine Cr.iinc (v := 2) (lv2 := [some (rf 1), some (it 3)]) (by decide +kernel : zi 82 97 = some (.iinc 1 1, 3)) (Nat.le_of_ble_eq_true rfl) rfl (by decide +kernel) ?_
  refine Cr.goto (q := 75) (by decide +kernel : zi 82 100 = some (.goto (-25), 3)) (by decide +kernel) ?_
  refine Cr.ildn (v := 3) (by decide +kernel : zi 82 75 = some (.iload_n 1, 1)) rfl ?_
  refine Cr.aldn (c := 1) (by decide +kernel : zi 82 76 = some (.aload_n 0, 1)) rfl ⟨by decide, by decide⟩ ?_
  refine Cr.getR (c := 0) (c2 := 21) (ci := 7) (k := 10) 10 (by decide +kernel : zi 82 77 = some (.getfield 27, 3)) (by decide +kernel) rfl (by decide +kernel) (by decide +kernel) (by decide) rfl (by rfl) ?_
  refine Cr.alen (c := 20) (K := 24) (N := 4) (v := 4) (by decide +kernel : zi 82 80 = some (.arraylength, 1)) (by decide +kernel) (by decide) (by decide) rfl ?_
  refine Cr.if2f (q := 103) (by decide +kernel : zi 82 81 = some (.if_icmp .ge 22, 3)) (by decide +kernel) (show ¬ (4 : Int) ≤ 3 by decide) ?_
  refine Cr.aldn (c := 1) (by decide +kernel : zi 82 84 = some (.aload_n 0, 1)) rfl ⟨by decide, by decide⟩ ?_
  refine Cr.getR (c := 0) (c2 := 21) (ci := 7) (k := 10) 10 (by decide +kernel : zi 82 85 = some (.getfield 27, 3)) (by decide +kernel) rfl (by decide +kernel) (by decide +kernel) (by decide) rfl (by rfl) ?_
  refine Cr.ildn (v := 3) (by decide +kernel : zi 82 88 = some (.iload_n 1, 1)) rfl ?_
  refine Cr.newo (n2 := 52) (ci := 5) (by decide +kernel : zi 82 89 = some (.new 25, 3)) (by decide +kernel) (by decide +kernel) (by decide) rfl ?_
  refine Cr.dup (by decide +kernel : zi 82 92 = some (.dup, 1)) rfl ?_
  refine Cr.callK (N := 53) (y2 := 66) (na := 1) (as := [rf 52]) (rest := [rf 52, it 3, rf 21]) (by decide +kernel : zi 82 93 = some (.invokespecial 32, 3)) rfl (by decide +kernel) (by decide +kernel) rfl rfl (zok_I rfl (by decide) (by decide +kernel) (by decide +kernel) (zrecv_c (c := 51) (by decide) (by decide +kernel)) rfl (Nat.le_of_ble_eq_true rfl)) (k66_52 (by omega) ⟨rfl, rfl, rfl⟩) ?_
  refine Cr.aast (c := 20) (w := 52) (K := 24) (N := 4) 52 (by decide +kernel : zi 82 96 = some (.aastore, 1)) (by decide +kernel) (by decide) (by decide) (by decide +kernel) (by decide) (by decide) rfl ?_
  refine Cr.iinc (v := 3) (lv2 := [some (rf 1), some (it 4)]) (by decide +kernel : zi 82 97 = some (.iinc 1 1, 3)) (Nat.le_of_ble_eq_true rfl) rfl (by decide +kernel) ?_
  refine Cr.goto (q := 75) (by decide +kernel : zi 82 100 = some (.goto (-25), 3)) (by decide +kernel) ?_
  refine Cr.ildn (v := 4) (by decide +kernel : zi 82 75 = some (.iload_n 1, 1)) rfl ?_
  refine Cr.aldn (c := 1) (by decide +kernel : zi 82 76 = some (.aload_n 0, 1)) rfl ⟨by decide, by decide⟩ ?_
  refine Cr.getR (c := 0) (c2 := 21) (ci := 7) (k := 10) 10 (by decide +kernel : zi 82 77 = some (.getfield 27, 3)) (by decide +kernel) rfl (by decide +kernel) (by decide +kernel) (by decide) rfl (by rfl) ?_
  refine Cr.alen (c := 20) (K := 24) (N := 4) (v := 4) (by decide +kernel : zi 82 80 = some (.arraylength, 1)) (by decide +kernel) (by decide) (by decide) rfl ?_
  refine Cr.if2t (q := 103) (by decide +kernel : zi 82 81 = some (.if_icmp .ge 22, 3)) (by decide +kernel) (show (4 : Int) ≤ 4 by decide) ?_
  refine Cr.aldn (c := 1) (by decide +kernel : zi 82 103 = some (.aload_n 0, 1)) rfl ⟨by decide, by decide⟩ ?_
  refine Cr.newo (n2 := 54) (ci := 2) (by decide +kernel : zi 82 104 = some (.new 33, 3)) (by decide +kernel) (by decide +kernel) (by decide) rfl ?_
  refine Cr.dup (by decide +kernel : zi 82 107 = some (.dup, 1)) rfl ?_
  refine Cr.aldn (c := 1) (by decide +kernel : zi 82 108 = some (.aload_n 0, 1)) rfl ⟨by decide, by decide⟩ ?_
  refine Cr.getR (c := 0) (c2 := 20) (ci := 7) (k := 3) 3 (by decide +kernel : zi 82 109 = some (.getfield 21, 3)) (by decide +kernel) rfl (by decide +kernel) (by decide +kernel) (by decide) rfl (by rfl) ?_
  refine Cr.iconst (by decide +kernel : zi 82 112 = some (.iconst 0, 1)) (by decide) ?_
  refine Cr.aald (c := 19) (c2 := 22) (K := 23) (N := 6) (by decide +kernel : zi 82 113 = some (.aaload, 1)) (by decide +kernel) (by decide) (by decide) (by decide) (by decide) (by rfl) ?_
  refine Cr.callK (N := 57) (y2 := 16) (na := 2) (as := [rf 54, rf 22]) (rest := [rf 54, rf 1]) (by decide +kernel : zi 82 114 = some (.invokespecial 35, 3)) rfl (by decide +kernel) (by decide +kernel) rfl rfl (zok_I rfl (by decide) (by decide +kernel) (by decide +kernel) (zrecv_c (c := 53) (by decide) (by decide +kernel)) rfl (Nat.le_of_ble_eq_true rfl)) (k16_54 (by omega) ⟨rfl, rfl, rfl⟩) ?_
  refine Cr.putR (c := 0) (w := 54) (ci := 7) (k := 5) 5 54 (by decide +kernel : zi 82 117 = some (.putfield 38, 3)) (by decide +kernel) (by decide +kernel) (by decide +kernel) (by decide) (by decide) (Or.inr ⟨by decide +kernel, by decide +kernel⟩) rfl rfl ?_
  refine Cr.iconst (by decide +kernel : zi 82 120 = some (.iconst 0, 1)) (by decide) ?_
  refine Cr.istn (lv2 := [some (rf 1), some (it 0)]) (by decide +kernel : zi 82 121 = some (.istore_n 1, 1)) (Nat.le_of_ble_eq_true rfl) rfl ?_
  exact h
def pl82b : List (Nat × Option (Int × Int)) := [(53, some (1, 0)), (0, some (4, 1)), (57, none), (58, none), (57, some (2, 59)), (59, none), (57, some (3, 60)), (60, none), (57, some (4, 61)), (61, none), (57, some (5, 62)), (62, none), (57, some (16, 63)), (63, none), (57, some (17, 64)), (57, some (0, 2)), (57, some (1, 22)), (0, some (6, 58)), (64, none), (65, none), (64, some (1, 66)), (66, none), (64, some (2, 67)), (67, none), (64, some (3, 68)), (64, some (0, 58)), (0, some (7, 65)), (68, none), (69, none), (68, some (1, 70)), (70, none), (68, some (2, 71)), (71, none), (68, some (3, 72)), (68, some (0, 58)), (0, some (8, 69))]
theorem k82b {s : Pl} {Q : Option AV → Nat → Pl → Prop} (hd : 2 ≤ d) (e00 : s 0 0 = 2) (e03 : s 0 3 = 20) (e05 : s 0 5 = 54) (e190 : s 19 0 = 22) (h : Q none 72 (pap s pl82b)) : Gr xs L d 82 164 [some (rf 1), some (it 48)] [] 57 s Q := by
  refine Cr.aldn (c := 1) (by decide +kernel : zi 82 164 = some (.aload_n 0, 1)) rfl ⟨by decide, by decide⟩ ?_
  refine Cr.getR (c := 0) (c2 := 54) (ci := 7) (k := 5) 5 (by decide +kernel : zi 82 165 = some (.getfield 38, 3)) (by decide +kernel) rfl (by decide +kernel) (by decide +kernel) (by decide) rfl (by first | exact e05 | simp [pap, zg, zng, e05]) ?_
  refine Cr.iconst (by decide +kernel : zi 82 168 = some (.iconst 0, 1)) (by decide) ?_
  refine Cr.putI (c := 53) (ci := 2) (k := 1) (t := 0) 1 (by decide +kernel : zi 82 169 = some (.putfield 62, 3)) (by decide +kernel) (by decide) (by decide +kernel) (by decide +kernel) (by decide) (Or.inl (by decide +kernel)) rfl ?_
  refine Cr.aldn (c := 1) (by decide +kernel : zi 82 172 = some (.aload_n 0, 1)) rfl ⟨by decide, by decide⟩ ?_
  refine Cr.iconst (by decide +kernel : zi 82 173 = some (.iconst 1, 1)) (by decide) ?_
  refine Cr.putI (c := 0) (ci := 7) (k := 4) (t := 0) 4 (by decide +kernel : zi 82 174 = some (.putfield 66, 3)) (by decide +kernel) (by decide) (by decide +kernel) (by decide +kernel) (by decide) (Or.inl (by decide +kernel)) rfl ?_
  refine Cr.aldn (c := 1) (by decide +kernel : zi 82 177 = some (.aload_n 0, 1)) rfl ⟨by decide, by decide⟩ ?_
  refine Cr.newo (n2 := 58) (ci := 3) (by decide +kernel : zi 82 178 = some (.new 69, 3)) (by decide +kernel) (by decide +kernel) (by decide) rfl ?_
  refine Cr.dup (by decide +kernel : zi 82 181 = some (.dup, 1)) rfl ?_
  refine Cr.aldn (c := 1) (by decide +kernel : zi 82 182 = some (.aload_n 0, 1)) rfl ⟨by decide, by decide⟩ ?_
  refine Cr.getR (c := 0) (c2 := 2) (ci := 7) (k := 0) 0 (by decide +kernel : zi 82 183 = some (.getfield 10, 3)) (by decide +kernel) rfl (by decide +kernel) (by decide +kernel) (by decide) rfl (by first | exact e00 | simp [pap, zg, zng, e00]) ?_
  refine Cr.aldn (c := 1) (by decide +kernel : zi 82 186 = some (.aload_n 0, 1)) rfl ⟨by decide, by decide⟩ ?_
  refine Cr.getR (c := 0) (c2 := 20) (ci := 7) (k := 3) 3 (by decide +kernel : zi 82 187 = some (.getfield 21, 3)) (by decide +kernel) rfl (by decide +kernel) (by decide +kernel) (by decide) rfl (by first | exact e03 | simp [pap, zg, zng, e03]) ?_
  refine Cr.iconst (by decide +kernel : zi 82 190 = some (.iconst 0, 1)) (by decide) ?_
  refine Cr.aald (c := 19) (c2 := 22) (K := 23) (N := 6) (by decide +kernel : zi 82 191 = some (.aaload, 1)) (by decide +kernel) (by decide) (by decide) (by decide) (by decide) (by first | exact e190 | simp [pap, zg, zng, e190]) ?_
  refine Cr.callK (N := 64) (y2 := 33) (na := 3) (as := [rf 58, rf 2, rf 22]) (rest := [rf 58, rf 1]) (by decide +kernel : zi 82 192 = some (.invokespecial 71, 3)) rfl (by decide +kernel) (by decide +kernel) rfl rfl (zok_I rfl (by decide) (by decide +kernel) (by decide +kernel) (zrecv_c (c := 57) (by decide) (by decide +kernel)) rfl (Nat.le_of_ble_eq_true rfl)) (k33_58 (by omega) ⟨rfl, rfl, rfl⟩) ?_
  refine Cr.putR (c := 0) (w := 58) (ci := 7) (k := 6) 6 58 (by decide +kernel : zi 82 195 = some (.putfield 74, 3)) (by decide +kernel) (by decide +kernel) (by decide +kernel) (by decide) (by decide) (Or.inr ⟨by decide +kernel, by decide +kernel⟩) rfl rfl ?_
  refine Cr.aldn (c := 1) (by decide +kernel : zi 82 198 = some (.aload_n 0, 1)) rfl ⟨by decide, by decide⟩ ?_
  refine Cr.newo (n2 := 65) (ci := 4) (by decide +kernel : zi 82 199 = some (.new 78, 3)) (by decide +kernel) (by decide +kernel) (by decide) rfl ?_
  refine Cr.dup (by decide +kernel : zi 82 202 = some (.dup, 1)) rfl ?_
  refine Cr.aldn (c := 1) (by decide +kernel : zi 82 203 = some (.aload_n 0, 1)) rfl ⟨by decide, by decide⟩ ?_
  refine Cr.getR (c := 0) (c2 := 58) (ci := 7) (k := 6) 6 (by decide +kernel : zi 82 204 = some (.getfield 74, 3)) (by decide +kernel) rfl (by decide +kernel) (by decide +kernel) (by decide) rfl (by rfl) ?_
  refine Cr.callK (N := 68) (y2 := 53) (na := 2) (as := [rf 65, rf 58]) (rest := [rf 65, rf 1]) (by decide +kernel : zi 82 207 = some (.invokespecial 80, 3)) rfl (by decide +kernel) (by decide +kernel) rfl rfl (zok_I rfl (by decide) (by decide +kernel) (by decide +kernel) (zrecv_c (c := 64) (by decide) (by decide +kernel)) rfl (Nat.le_of_ble_eq_true rfl)) (k53_65 (by omega) ⟨rfl, rfl, rfl⟩) ?_
  refine Cr.putR (c := 0) (w := 65) (ci := 7) (k := 7) 7 65 (by decide +kernel : zi 82 210 = some (.putfield 83, 3)) (by decide +kernel) (by decide +kernel) (by decide +kernel) (by decide) (by decide) (Or.inr ⟨by decide +kernel, by decide +kernel⟩) rfl rfl ?_
  refine Cr.aldn (c := 1) (by decide +kernel : zi 82 213 = some (.aload_n 0, 1)) rfl ⟨by decide, by decide⟩ ?_
  refine Cr.newo (n2 := 69) (ci := 6) (by decide +kernel : zi 82 214 = some (.new 87, 3)) (by decide +kernel) (by decide +kernel) (by decide) rfl ?_
  refine Cr.dup (by decide +kernel : zi 82 217 = some (.dup, 1)) rfl ?_
  refine Cr.aldn (c := 1) (by decide +kernel : zi 82 218 = some (.aload_n 0, 1)) rfl ⟨by decide, by decide⟩ ?_
  refine Cr.getR (c := 0) (c2 := 58) (ci := 7) (k := 6) 6 (by decide +kernel : zi 82 219 = some (.getfield 74, 3)) (by decide +kernel) rfl (by decide +kernel) (by decide +kernel) (by decide) rfl (by rfl) ?_
  refine Cr.callK (N := 72) (y2 := 72) (na := 2) (as := [rf 69, rf 58]) (rest := [rf 69, rf 1]) (by decide +kernel : zi 82 222 = some (.invokespecial 89, 3)) rfl (by decide +kernel) (by decide +kernel) rfl rfl (zok_I rfl (by decide) (by decide +kernel) (by decide +kernel) (zrecv_c (c := 68) (by decide) (by decide +kernel)) rfl (Nat.le_of_ble_eq_true rfl)) (k72_69 (by omega) ⟨rfl, rfl, rfl⟩) ?_
  refine Cr.putR (c := 0) (w := 69) (ci := 7) (k := 8) 8 69 (by decide +kernel : zi 82 225 = some (.putfield 90, 3)) (by decide +kernel) (by decide +kernel) (by decide +kernel) (by decide) (by decide) (Or.inr ⟨by decide +kernel, by decide +kernel⟩) rfl rfl ?_
  exact Cr.retV (by decide +kernel : zi 82 228 = some (.return_, 1)) (by decide +kernel) h
end INI3
