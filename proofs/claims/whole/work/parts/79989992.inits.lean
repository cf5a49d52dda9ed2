/-! constructors, one by one -/
theorem zng (s : Pl) (k a : Nat) (b : Int) : znew s k a b = if a = k then 0 else s a b := by
  unfold znew
  by_cases h : a = k
  · rw [if_pos h, if_pos h]
  · rw [if_neg h, if_neg h]
section INI
variable {xs : Nat → Int} {L d : Nat}
theorem Cr.callK {y pc n N y2 na z : Nat} {lv : LVs} {st as rest : List AV} {s S : Pl} {i : Instr} {Q : Option AV → Nat → Pl → Prop} (hi : zi y pc = some (i, z)) (hr : zret (yr y) i st = none) (hc : zcal (yo y) i = some y2) (hna : (zm y2).2.2.2.2.2.2.1 = na) (hst : st = as.reverse ++ rest) (hl : as.length = na) (hok : zcallok i y2 n as rest = true) (hcall : Er xs L d y2 as n s (fun r n2 s2 => r = none ∧ n2 = N ∧ s2 = S)) (k : Gr xs L d y (pc + z) lv rest N S Q) : Gr xs L d y pc lv st n s Q :=
  Gr.call hi hr hc hna hst hl hok hcall (fun r n2 s2 h => by obtain ⟨rfl, rfl, rfl⟩ := h; exact k)
theorem Cr.callJ {y pc n y2 na z : Nat} {v : Int} {lv : LVs} {st as rest : List AV} {s : Pl} {i : Instr} {Q : Option AV → Nat → Pl → Prop} (hi : zi y pc = some (i, z)) (hr : zret (yr y) i st = none) (hc : zcal (yo y) i = some y2) (hna : (zm y2).2.2.2.2.2.2.1 = na) (hst : st = as.reverse ++ rest) (hl : as.length = na) (hok : zcallok i y2 n as rest = true) (hcall : Er xs L d y2 as n s (fun r n2 s2 => r = some (it v) ∧ n2 = n ∧ s2 = s)) (k : Gr xs L d y (pc + z) lv (it v :: rest) n s Q) : Gr xs L d y pc lv st n s Q :=
  Gr.call hi hr hc hna hst hl hok hcall (fun r n2 s2 h => by obtain ⟨rfl, rfl, rfl⟩ := h; exact k)
theorem k229 {n : Nat} {s : Pl} {v r : Int} (hd : 1 ≤ d) (h : (if 0 ≤ v then v else zw (-v)) = r) : Er xs L d 229 [it v] n s (fun r9 n2 s2 => r9 = some (it r) ∧ n2 = n ∧ s2 = s) := by
  have := (e229 (xs := xs) (L := L) (T := []) (n := n) (s := s) hd (f229_0 (P := fun q s2 => q = r ∧ s2 = s) ⟨fun g => ⟨by rw [if_pos g] at h; exact h, rfl⟩, fun g => ⟨by rw [if_neg g] at h; exact h, rfl⟩⟩)) (fun e he => absurd he (by simp)) (fun e he => absurd he (by simp))
  exact this.mono fun r9 n2 s2 q => by
    obtain ⟨q1, q2, w, q3, q4, q5⟩ := q
    exact ⟨by rw [q3, q4], q1, q5⟩
theorem k0_2 {s : Pl} {Q : Option AV → Nat → Pl → Prop} (hd : 2 ≤ d) (h : Q none 10 (pap s [(2, none), (1, some (3, 3)), (3, none), (1, some (4, 4)), (4, none), (1, some (5, 5)), (5, none), (1, some (6, 6)), (6, none), (1, some (7, 7)), (7, none), (1, some (8, 8)), (8, none), (1, some (9, 9)), (9, none), (1, some (10, 10)), (9, some (0, 0)), (9, some (1, 1)), (9, some (2, 2)), (9, some (3, 3)), (9, some (4, 1)), (9, some (5, 0)), (9, some (6, 1)), (9, some (7, 2)), (9, some (8, 2)), (9, some (9, 1)), (9, some (10, 0)), (9, some (11, 1)), (9, some (12, 3)), (9, some (13, 2)), (9, some (14, 1)), (9, some (15, 0))])) : Er xs L d 0 [rf 2] 2 s Q := by
  obtain ⟨e, rfl⟩ : ∃ e, d = e + 1 := ⟨d - 1, by omega⟩
  refine Er.of (by decide) [some (rf 2), none, none] rfl ?_
  refine Cr.aldn (c := 2) (by decide +kernel : zi 0 0 = some (.aload_n 0, 1)) rfl ⟨by decide, by decide⟩ ?_
  refine Cr.oinit (c := 2) (by decide +kernel : zi 0 1 = some (.invokespecial 3, 3)) (by decide +kernel) (by decide +kernel) ⟨by decide, by decide⟩ (Nat.le_of_ble_eq_true rfl) ?_
  refine Cr.aldn (c := 2) (by decide +kernel : zi 0 4 = some (.aload_n 0, 1)) rfl ⟨by decide, by decide⟩ ?_
  refine Cr.bipush (by decide +kernel : zi 0 5 = some (.bipush 6, 2)) (by decide) ?_
  refine Cr.newarr (n2 := 3) (k := 6) (by decide +kernel : zi 0 7 = some (.newarray .int, 2)) (by decide +kernel) (by decide) (by decide) rfl ?_
  refine Cr.putR (c := 1) (w := 3) (ci := 0) (k := 3) 3 3 (by decide +kernel : zi 0 9 = some (.putfield 9, 3)) (by decide +kernel) (by decide +kernel) (by decide +kernel) (by decide) (by decide) (Or.inr ⟨by decide +kernel, by decide +kernel⟩) rfl rfl ?_
  refine Cr.aldn (c := 2) (by decide +kernel : zi 0 12 = some (.aload_n 0, 1)) rfl ⟨by decide, by decide⟩ ?_
  refine Cr.bipush (by decide +kernel : zi 0 13 = some (.bipush 6, 2)) (by decide) ?_
  refine Cr.newarr (n2 := 4) (k := 6) (by decide +kernel : zi 0 15 = some (.newarray .int, 2)) (by decide +kernel) (by decide) (by decide) rfl ?_
  refine Cr.putR (c := 1) (w := 4) (ci := 0) (k := 4) 4 4 (by decide +kernel : zi 0 17 = some (.putfield 15, 3)) (by decide +kernel) (by decide +kernel) (by decide +kernel) (by decide) (by decide) (Or.inr ⟨by decide +kernel, by decide +kernel⟩) rfl rfl ?_
  refine Cr.aldn (c := 2) (by decide +kernel : zi 0 20 = some (.aload_n 0, 1)) rfl ⟨by decide, by decide⟩ ?_
  refine Cr.bipush (by decide +kernel : zi 0 21 = some (.bipush 6, 2)) (by decide) ?_
  refine Cr.newarr (n2 := 5) (k := 6) (by decide +kernel : zi 0 23 = some (.newarray .int, 2)) (by decide +kernel) (by decide) (by decide) rfl ?_
  refine Cr.putR (c := 1) (w := 5) (ci := 0) (k := 5) 5 5 (by decide +kernel : zi 0 25 = some (.putfield 18, 3)) (by decide +kernel) (by decide +kernel) (by decide +kernel) (by decide) (by decide) (Or.inr ⟨by decide +kernel, by decide +kernel⟩) rfl rfl ?_
  refine Cr.aldn (c := 2) (by decide +kernel : zi 0 28 = some (.aload_n 0, 1)) rfl ⟨by decide, by decide⟩ ?_
  refine Cr.bipush (by decide +kernel : zi 0 29 = some (.bipush 6, 2)) (by decide) ?_
  refine Cr.newarr (n2 := 6) (k := 6) (by decide +kernel : zi 0 31 = some (.newarray .int, 2)) (by decide +kernel) (by decide) (by decide) rfl ?_
  refine Cr.putR (c := 1) (w := 6) (ci := 0) (k := 6) 6 6 (by decide +kernel : zi 0 33 = some (.putfield 21, 3)) (by decide +kernel) (by decide +kernel) (by decide +kernel) (by decide) (by decide) (Or.inr ⟨by decide +kernel, by decide +kernel⟩) rfl rfl ?_
  refine Cr.aldn (c := 2) (by decide +kernel : zi 0 36 = some (.aload_n 0, 1)) rfl ⟨by decide, by decide⟩ ?_
  refine Cr.bipush (by decide +kernel : zi 0 37 = some (.bipush 6, 2)) (by decide) ?_
  refine Cr.newarr (n2 := 7) (k := 6) (by decide +kernel : zi 0 39 = some (.newarray .int, 2)) (by decide +kernel) (by decide) (by decide) rfl ?_
  refine Cr.putR (c := 1) (w := 7) (ci := 0) (k := 7) 7 7 (by decide +kernel : zi 0 41 = some (.putfield 24, 3)) (by decide +kernel) (by decide +kernel) (by decide +kernel) (by decide) (by decide) (Or.inr ⟨by decide +kernel, by decide +kernel⟩) rfl rfl ?_
  refine Cr.aldn (c := 2) (by decide +kernel : zi 0 44 = some (.aload_n 0, 1)) rfl ⟨by decide, by decide⟩ ?_
  refine Cr.bipush (by decide +kernel : zi 0 45 = some (.bipush 6, 2)) (by decide) ?_
  refine Cr.newarr (n2 := 8) (k := 6) (by decide +kernel : zi 0 47 = some (.newarray .int, 2)) (by decide +kernel) (by decide) (by decide) rfl ?_
  refine Cr.putR (c := 1) (w := 8) (ci := 0) (k := 8) 8 8 (by decide +kernel : zi 0 49 = some (.putfield 27, 3)) (by decide +kernel) (by decide +kernel) (by decide +kernel) (by decide) (by decide) (Or.inr ⟨by decide +kernel, by decide +kernel⟩) rfl rfl ?_
  refine Cr.aldn (c := 2) (by decide +kernel : zi 0 52 = some (.aload_n 0, 1)) rfl ⟨by decide, by decide⟩ ?_
  refine Cr.bipush (by decide +kernel : zi 0 53 = some (.bipush 6, 2)) (by decide) ?_
  refine Cr.newarr (n2 := 9) (k := 6) (by decide +kernel : zi 0 55 = some (.newarray .int, 2)) (by decide +kernel) (by decide) (by decide) rfl ?_
  refine Cr.putR (c := 1) (w := 9) (ci := 0) (k := 9) 9 9 (by decide +kernel : zi 0 57 = some (.putfield 30, 3)) (by decide +kernel) (by decide +kernel) (by decide +kernel) (by decide) (by decide) (Or.inr ⟨by decide +kernel, by decide +kernel⟩) rfl rfl ?_
  refine Cr.aldn (c := 2) (by decide +kernel : zi 0 60 = some (.aload_n 0, 1)) rfl ⟨by decide, by decide⟩ ?_
  refine Cr.bipush (by decide +kernel : zi 0 61 = some (.bipush 16, 2)) (by decide) ?_
  refine Cr.newarr (n2 := 10) (k := 16) (by decide +kernel : zi 0 63 = some (.newarray .int, 2)) (by decide +kernel) (by decide) (by decide) rfl ?_
  refine Cr.putR (c := 1) (w := 10) (ci := 0) (k := 10) 10 10 (by decide +kernel : zi 0 65 = some (.putfield 33, 3)) (by decide +kernel) (by decide +kernel) (by decide +kernel) (by decide) (by decide) (Or.inr ⟨by decide +kernel, by decide +kernel⟩) rfl rfl ?_
  refine Cr.iconst (by decide +kernel : zi 0 68 = some (.iconst 0, 1)) (by decide) ?_
  refine Cr.istn (lv2 := [some (rf 2), some (it 0), none]) (by decide +kernel : zi 0 69 = some (.istore_n 1, 1)) (Nat.le_of_ble_eq_true rfl) rfl ?_
  refine Cr.ildn (v := 0) (by decide +kernel : zi 0 70 = some (.iload_n 1, 1)) rfl ?_
  refine Cr.iconst (by decide +kernel : zi 0 71 = some (.iconst 4, 1)) (by decide) ?_
  refine Cr.if2f (q := 110) (by decide +kernel : zi 0 72 = some (.if_icmp .ge 38, 3)) (by decide +kernel) (show ¬ (4 : Int) ≤ 0 by decide) ?_
  refine Cr.iconst (by decide +kernel : zi 0 75 = some (.iconst 0, 1)) (by decide) ?_
  refine Cr.istn (lv2 := [some (rf 2), some (it 0), some (it 0)]) (by decide +kernel : zi 0 76 = some (.istore_n 2, 1)) (Nat.le_of_ble_eq_true rfl) rfl ?_
  refine Cr.ildn (v := 0) (by decide +kernel : zi 0 77 = some (.iload_n 2, 1)) rfl ?_
  refine Cr.iconst (by decide +kernel : zi 0 78 = some (.iconst 4, 1)) (by decide) ?_
  refine Cr.if2f (q := 104) (by decide +kernel : zi 0 79 = some (.if_icmp .ge 25, 3)) (by decide +kernel) (show ¬ (4 : Int) ≤ 0 by decide) ?_
  refine Cr.aldn (c := 2) (by decide +kernel : zi 0 82 = some (.aload_n 0, 1)) rfl ⟨by decide, by decide⟩ ?_
  refine Cr.getR (c := 1) (c2 := 10) (ci := 0) (k := 10) 10 (by decide +kernel : zi 0 83 = some (.getfield 33, 3)) (by decide +kernel) rfl (by decide +kernel) (by decide +kernel) (by decide) rfl (by rfl) ?_
  refine Cr.iconst (by decide +kernel : zi 0 86 = some (.iconst 4, 1)) (by decide) ?_
  refine Cr.ildn (v := 0) (by decide +kernel : zi 0 87 = some (.iload_n 1, 1)) rfl ?_
  refine Cr.imul (c := 0) (by decide +kernel : zi 0 88 = some (.imul, 1)) (by decide +kernel) ?_
  refine Cr.ildn (v := 0) (by decide +kernel : zi 0 89 = some (.iload_n 2, 1)) rfl ?_
  refine Cr.iadd (c := 0) (by decide +kernel : zi 0 90 = some (.iadd, 1)) (by decide +kernel) ?_
  refine Cr.ildn (v := 0) (by decide +kernel : zi 0 91 = some (.iload_n 1, 1)) rfl ?_
  refine Cr.ildn (v := 0) (by decide +kernel : zi 0 92 = some (.iload_n 2, 1)) rfl ?_
  refine Cr.isub (c := 0) (by decide +kernel : zi 0 93 = some (.isub, 1)) (by decide +kernel) ?_
  refine Cr.callJ (v := 0) (y2 := 229) (na := 1) (as := [it 0]) (rest := [it 0, rf 10]) (by decide +kernel : zi 0 94 = some (.invokestatic 36, 3)) rfl (by decide +kernel) (by decide +kernel) rfl rfl (zok_S rfl (by decide) (by decide +kernel) rfl (Nat.le_of_ble_eq_true rfl)) (k229 (by omega) (by decide +kernel)) ?_
  refine Cr.iast (c := 9) (N := 16) (by decide +kernel : zi 0 97 = some (.iastore, 1)) (by decide +kernel) (by decide) (by decide) (by decide) ?_
  refine Cr.iinc (v := 0) (lv2 := [some (rf 2), some (it 0), some (it 1)]) (by decide +kernel : zi 0 98 = some (.iinc 2 1, 3)) (Nat.le_of_ble_eq_true rfl) rfl (by decide +kernel) ?_
  refine Cr.goto (q := 77) (by decide +kernel : zi 0 101 = some (.goto (-24), 3)) (by decide +kernel) ?_
  refine Cr.ildn (v := 1) (by decide +kernel : zi 0 77 = some (.iload_n 2, 1)) rfl ?_
  refine Cr.iconst (by decide +kernel : zi 0 78 = some (.iconst 4, 1)) (by decide) ?_
  refine Cr.if2f (q := 104) (by decide +kernel : zi 0 79 = some (.if_icmp .ge 25, 3)) (by decide +kernel) (show ¬ (4 : Int) ≤ 1 by decide) ?_
  refine Cr.aldn (c := 2) (by decide +kernel : zi 0 82 = some (.aload_n 0, 1)) rfl ⟨by decide, by decide⟩ ?_
  refine Cr.getR (c := 1) (c2 := 10) (ci := 0) (k := 10) 10 (by decide +kernel : zi 0 83 = some (.getfield 33, 3)) (by decide +kernel) rfl (by decide +kernel) (by decide +kernel) (by decide) rfl (by rfl) ?_
  refine Cr.iconst (by decide +kernel : zi 0 86 = some (.iconst 4, 1)) (by decide) ?_
  refine Cr.ildn (v := 0) (by decide +kernel : zi 0 87 = some (.iload_n 1, 1)) rfl ?_
  refine Cr.imul (c := 0) (by decide +kernel : zi 0 88 = some (.imul, 1)) (by decide +kernel) ?_
  refine Cr.ildn (v := 1) (by decide +kernel : zi 0 89 = some (.iload_n 2, 1)) rfl ?_
  refine Cr.iadd (c := 1) (by decide +kernel : zi 0 90 = some (.iadd, 1)) (by decide +kernel) ?_
  refine Cr.ildn (v := 0) (by decide +kernel : zi 0 91 = some (.iload_n 1, 1)) rfl ?_
  refine Cr.ildn (v := 1) (by decide +kernel : zi 0 92 = some (.iload_n 2, 1)) rfl ?_
  refine Cr.isub (c := (-1)) (by decide +kernel : zi 0 93 = some (.isub, 1)) (by decide +kernel) ?_
  refine Cr.callJ (v := 1) (y2 := 229) (na := 1) (as := [it (-1)]) (rest := [it 1, rf 10]) (by decide +kernel : zi 0 94 = some (.invokestatic 36, 3)) rfl (by decide +kernel) (by decide +kernel) rfl rfl (zok_S rfl (by decide) (by decide +kernel) rfl (Nat.le_of_ble_eq_true rfl)) (k229 (by omega) (by decide +kernel)) ?_
  refine Cr.iast (c := 9) (N := 16) (by decide +kernel : zi 0 97 = some (.iastore, 1)) (by decide +kernel) (by decide) (by decide) (by decide) ?_
  refine Cr.iinc (v := 1) (lv2 := [some (rf 2), some (it 0), some (it 2)]) (by decide +kernel : zi 0 98 = some (.iinc 2 1, 3)) (Nat.le_of_ble_eq_true rfl) rfl (by decide +kernel) ?_
  refine Cr.goto (q := 77) (by decide +kernel : zi 0 101 = some (.goto (-24), 3)) (by decide +kernel) ?_
  refine Cr.ildn (v := 2) (by decide +kernel : zi 0 77 = some (.iload_n 2, 1)) rfl ?_
  refine Cr.iconst (by decide +kernel : zi 0 78 = some (.iconst 4, 1)) (by decide) ?_
  refine Cr.if2f (q := 104) (by decide +kernel : zi 0 79 = some (.if_icmp .ge 25, 3)) (by decide +kernel) (show ¬ (4 : Int) ≤ 2 by decide) ?_
  refine Cr.aldn (c := 2) (by decide +kernel : zi 0 82 = some (.aload_n 0, 1)) rfl ⟨by decide, by decide⟩ ?_
  refine Cr.getR (c := 1) (c2 := 10) (ci := 0) (k := 10) 10 (by decide +kernel : zi 0 83 = some (.getfield 33, 3)) (by decide +kernel) rfl (by decide +kernel) (by decide +kernel) (by decide) rfl (by rfl) ?_
  refine Cr.iconst (by decide +kernel : zi 0 86 = some (.iconst 4, 1)) (by decide) ?_
  refine Cr.ildn (v := 0) (by decide +kernel : zi 0 87 = some (.iload_n 1, 1)) rfl ?_
  refine Cr.imul (c := 0) (by decide +kernel : zi 0 88 = some (.imul, 1)) (by decide +kernel) ?_
  refine Cr.ildn (v := 2) (by decide +kernel : zi 0 89 = some (.iload_n 2, 1)) rfl ?_
  refine Cr.iadd (c := 2) (by decide +kernel : zi 0 90 = some (.iadd, 1)) (by decide +kernel) ?_
  refine Cr.ildn (v := 0) (by decide +kernel : zi 0 91 = some (.iload_n 1, 1)) rfl ?_
  refine Cr.ildn (v := 2) (by decide +kernel : zi 0 92 = some (.iload_n 2, 1)) rfl ?_
  refine Cr.isub (c := (-2)) (by decide +kernel : zi 0 93 = some (.isub, 1)) (by decide +kernel) ?_
  refine Cr.callJ (v := 2) (y2 := 229) (na := 1) (as := [it (-2)]) (rest := [it 2, rf 10]) (by decide +kernel : zi 0 94 = some (.invokestatic 36, 3)) rfl (by decide +kernel) (by decide +kernel) rfl rfl (zok_S rfl (by decide) (by decide +kernel) rfl (Nat.le_of_ble_eq_true rfl)) (k229 (by omega) (by decide +kernel)) ?_
  refine Cr.iast (c := 9) (N := 16) (by decide +kernel : zi 0 97 = some (.iastore, 1)) (by decide +kernel) (by decide) (by decide) (by decide) ?_
  refine Cr.iinc (v := 2) (lv2 := [some (rf 2), some (it 0), some (it 3)]) (by decide +kernel : zi 0 98 = some (.iinc 2 1, 3)) (Nat.le_of_ble_eq_true rfl) rfl (by decide +kernel) ?_
  refine Cr.goto (q := 77) (by decide +kernel : zi 0 101 = some (.goto (-24), 3)) (by decide +kernel) ?_
  refine Cr.ildn (v := 3) (by decide +kernel : zi 0 77 = some (.iload_n 2, 1)) rfl ?_
  refine Cr.iconst (by decide +kernel : zi 0 78 = some (.iconst 4, 1)) (by decide) ?_
  refine Cr.if2f (q := 104) (by decide +kernel : zi 0 79 = some (.if_icmp .ge 25, 3)) (by decide +kernel) (show ¬ (4 : Int) ≤ 3 by decide) ?_
  refine Cr.aldn (c := 2) (by decide +kernel : zi 0 82 = some (.aload_n 0, 1)) rfl ⟨by decide, by decide⟩ ?_
  refine Cr.getR (c := 1) (c2 := 10) (ci := 0) (k := 10) 10 (by decide +kernel : zi 0 83 = some (.getfield 33, 3)) (by decide +kernel) rfl (by decide +kernel) (by decide +kernel) (by decide) rfl (by rfl) ?_
  refine Cr.iconst (by decide +kernel : zi 0 86 = some (.iconst 4, 1)) (by decide) ?_
  refine Cr.ildn (v := 0) (by decide +kernel : zi 0 87 = some (.iload_n 1, 1)) rfl ?_
  refine Cr.imul (c := 0) (by decide +kernel : zi 0 88 = some (.imul, 1)) (by decide +kernel) ?_
  refine Cr.ildn (v := 3) (by decide +kernel : zi 0 89 = some (.iload_n 2, 1)) rfl ?_
  refine Cr.iadd (c := 3) (by decide +kernel : zi 0 90 = some (.iadd, 1)) (by decide +kernel) ?_
  refine Cr.ildn (v := 0) (by decide +kernel : zi 0 91 = some (.iload_n 1, 1)) rfl ?_
  refine Cr.ildn (v := 3) (by decide +kernel : zi 0 92 = some (.iload_n 2, 1)) rfl ?_
  refine Cr.isub (c := (-3)) (by decide +kernel : zi 0 93 = some (.isub, 1)) (by decide +kernel) ?_
  refine Cr.callJ (v := 3) (y2 := 229) (na := 1) (as := [it (-3)]) (rest := [it 3, rf 10]) (by decide +kernel : zi 0 94 = some (.invokestatic 36, 3)) rfl (by decide +kernel) (by decide +kernel) rfl rfl (zok_S rfl (by decide) (by decide +kernel) rfl (Nat.le_of_ble_eq_true rfl)) (k229 (by omega) (by decide +kernel)) ?_
  refine Cr.iast (c := 9) (N := 16) (by decide +kernel : zi 0 97 = some (.iastore, 1)) (by decide +kernel) (by decide) (by decide) (by decide) ?_
  refine Cr.iinc (v := 3) (lv2 := [some (rf 2), some (it 0), some (it 4)]) (by decide +kernel : zi 0 98 = some (.iinc 2 1, 3)) (Nat.le_of_ble_eq_true rfl) rfl (by decide +kernel) ?_
  refine Cr.goto (q := 77) (by decide +kernel : zi 0 101 = some (.goto (-24), 3)) (by decide +kernel) ?_
  refine Cr.ildn (v := 4) (by decide +kernel : zi 0 77 = some (.iload_n 2, 1)) rfl ?_
  refine Cr.iconst (by decide +kernel : zi 0 78 = some (.iconst 4, 1)) (by decide) ?_
  refine Cr.if2t (q := 104) (by decide +kernel : zi 0 79 = some (.if_icmp .ge 25, 3)) (by decide +kernel) (show (4 : Int) ≤ 4 by decide) ?_
  refine Cr.iinc (v := 0) (lv2 := [some (rf 2), some (it 1), some (it 4)]) (by decide +kernel : zi 0 104 = some (.iinc 1 1, 3)) (Nat.le_of_ble_eq_true rfl) rfl (by decide +kernel) ?_
  refine Cr.goto (q := 70) (by decide +kernel : zi 0 107 = some (.goto (-37), 3)) (by decide +kernel) ?_
  refine Cr.ildn (v := 1) (by decide +kernel : zi 0 70 = some (.iload_n 1, 1)) rfl ?_
  refine Cr.iconst (by decide +kernel : zi 0 71 = some (.iconst 4, 1)) (by decide) ?_
  refine Cr.if2f (q := 110) (by decide +kernel : zi 0 72 = some (.if_icmp .ge 38, 3)) (by decide +kernel) (show ¬ (4 : Int) ≤ 1 by decide) ?_
  refine Cr.iconst (by decide +kernel : zi 0 75 = some (.iconst 0, 1)) (by decide) ?_
  refine Cr.istn (lv2 := [some (rf 2), some (it 1), some (it 0)]) (by decide +kernel : zi 0 76 = some (.istore_n 2, 1)) (Nat.le_of_ble_eq_true rfl) rfl ?_
  refine Cr.ildn (v := 0) (by decide +kernel : zi 0 77 = some (.iload_n 2, 1)) rfl ?_
  refine Cr.iconst (by decide +kernel : zi 0 78 = some (.iconst 4, 1)) (by decide) ?_
  refine Cr.if2f (q := 104) (by decide +kernel : zi 0 79 = some (.if_icmp .ge 25, 3)) (by decide +kernel) (show ¬ (4 : Int) ≤ 0 by decide) ?_
  refine Cr.aldn (c := 2) (by decide +kernel : zi 0 82 = some (.aload_n 0, 1)) rfl ⟨by decide, by decide⟩ ?_
  refine Cr.getR (c := 1) (c2 := 10) (ci := 0) (k := 10) 10 (by decide +kernel : zi 0 83 = some (.getfield 33, 3)) (by decide +kernel) rfl (by decide +kernel) (by decide +kernel) (by decide) rfl (by rfl) ?_
  refine Cr.iconst (by decide +kernel : zi 0 86 = some (.iconst 4, 1)) (by decide) ?_
  refine Cr.ildn (v := 1) (by decide +kernel : zi 0 87 = some (.iload_n 1, 1)) rfl ?_
  refine Cr.imul (c := 4) (by decide +kernel : zi 0 88 = some (.imul, 1)) (by decide +kernel) ?_
  refine Cr.ildn (v := 0) (by decide +kernel : zi 0 89 = some (.iload_n 2, 1)) rfl ?_
  refine Cr.iadd (c := 4) (by decide +kernel : zi 0 90 = some (.iadd, 1)) (by decide +kernel) ?_
  refine Cr.ildn (v := 1) (by decide +kernel : zi 0 91 = some (.iload_n 1, 1)) rfl ?_
  refine Cr.ildn (v := 0) (by decide +kernel : zi 0 92 = some (.iload_n 2, 1)) rfl ?_
  refine Cr.isub (c := 1) (by decide +kernel : zi 0 93 = some (.isub, 1)) (by decide +kernel) ?_
  refine Cr.callJ (v := 1) (y2 := 229) (na := 1) (as := [it 1]) (rest := [it 4, rf 10]) (by decide +kernel : zi 0 94 = some (.invokestatic 36, 3)) rfl (by decide +kernel) (by decide +kernel) rfl rfl (zok_S rfl (by decide) (by decide +kernel) rfl (Nat.le_of_ble_eq_true rfl)) (k229 (by omega) (by decide +kernel)) ?_
  refine Cr.iast (c := 9) (N := 16) (by decide +kernel : zi 0 97 = some (.iastore, 1)) (by decide +kernel) (by decide) (by decide) (by decide) ?_
  refine Cr.iinc (v := 0) (lv2 := [some (rf 2), some (it 1), some (it 1)]) (by decide +kernel : zi 0 98 = some (.iinc 2 1, 3)) (Nat.le_of_ble_eq_true rfl) rfl (by decide +kernel) ?_
  refine Cr.goto (q := 77) (by decide +kernel : zi 0 101 = some (.goto (-24), 3)) (by decide +kernel) ?_
  refine Cr.ildn (v := 1) (by decide +kernel : zi 0 77 = some (.iload_n 2, 1)) rfl ?_
  refine Cr.iconst (by decide +kernel : zi 0 78 = some (.iconst 4, 1)) (by decide) ?_
  refine Cr.if2f (q := 104) (by decide +kernel : zi 0 79 = some (.if_icmp .ge 25, 3)) (by decide +kernel) (show ¬ (4 : Int) ≤ 1 by decide) ?_
  refine Cr.aldn (c := 2) (by decide +kernel : zi 0 82 = some (.aload_n 0, 1)) rfl ⟨by decide, by decide⟩ ?_
  refine Cr.getR (c := 1) (c2 := 10) (ci := 0) (k := 10) 10 (by decide +kernel : zi 0 83 = some (.getfield 33, 3)) (by decide +kernel) rfl (by decide +kernel) (by decide +kernel) (by decide) rfl (by rfl) ?_
  refine Cr.iconst (by decide +kernel : zi 0 86 = some (.iconst 4, 1)) (by decide) ?_
  refine Cr.ildn (v := 1) (by decide +kernel : zi 0 87 = some (.iload_n 1, 1)) rfl ?_
  refine Cr.imul (c := 4) (by decide +kernel : zi 0 88 = some (.imul, 1)) (by decide +kernel) ?_
  refine Cr.ildn (v := 1) (by decide +kernel : zi 0 89 = some (.iload_n 2, 1)) rfl ?_
  refine Cr.iadd (c := 5) (by decide +kernel : zi 0 90 = some (.iadd, 1)) (by decide +kernel) ?_
  refine Cr.ildn (v := 1) (by decide +kernel : zi 0 91 = some (.iload_n 1, 1)) rfl ?_
  refine Cr.ildn (v := 1) (by decide +kernel : zi 0 92 = some (.iload_n 2, 1)) rfl ?_
  refine Cr.isub (c := 0) (by decide +kernel : zi 0 93 = some (.isub, 1)) (by decide +kernel) ?_
  refine Cr.callJ (v := 0) (y2 := 229) (na := 1) (as := [it 0]) (rest := [it 5, rf 10]) (by decide +kernel : zi 0 94 = some (.invokestatic 36, 3)) rfl (by decide +kernel) (by decide +kernel) rfl rfl (zok_S rfl (by decide) (by decide +kernel) rfl (Nat.le_of_ble_eq_true rfl)) (k229 (by omega) (by decide +kernel)) ?_
  refine Cr.iast (c := 9) (N := 16) (by decide +kernel : zi 0 97 = some (.iastore, 1)) (by decide +kernel) (by decide) (by decide) (by decide) ?_
  refine Cr.iinc (v := 1) (lv2 := [some (rf 2), some (it 1), some (it 2)]) (by decide +kernel : zi 0 98 = some (.iinc 2 1, 3)) (Nat.le_of_ble_eq_true rfl) rfl (by decide +kernel) ?_
  refine Cr.goto (q := 77) (by decide +kernel : zi 0 101 = some (.goto (-24), 3)) (by decide +kernel) ?_
  refine Cr.ildn (v := 2) (by decide +kernel : zi 0 77 = some (.iload_n 2, 1)) rfl ?_
  refine Cr.iconst (by decide +kernel : zi 0 78 = some (.iconst 4, 1)) (by decide) ?_
  refine Cr.if2f (q := 104) (by decide +kernel : zi 0 79 = some (.if_icmp .ge 25, 3)) (by decide +kernel) (show ¬ (4 : Int) ≤ 2 by decide) ?_
  refine Cr.aldn (c := 2) (by decide +kernel : zi 0 82 = some (.aload_n 0, 1)) rfl ⟨by decide, by decide⟩ ?_
  refine Cr.getR (c := 1) (c2 := 10) (ci := 0) (k := 10) 10 (by decide +kernel : zi 0 83 = some (.getfield 33, 3)) (by decide +kernel) rfl (by decide +kernel) (by decide +kernel) (by decide) rfl (by rfl) ?_
  refine Cr.iconst (by decide +kernel : zi 0 86 = some (.iconst 4, 1)) (by decide) ?_
  refine Cr.ildn (v := 1) (by decide +kernel : zi 0 87 = some (.iload_n 1, 1)) rfl ?_
  refine Cr.imul (c := 4) (by decide +kernel : zi 0 88 = some (.imul, 1)) (by decide +kernel) ?_
  refine Cr.ildn (v := 2) (by decide +kernel : zi 0 89 = some (.iload_n 2, 1)) rfl ?_
  refine Cr.iadd (c := 6) (by decide +kernel : zi 0 90 = some (.iadd, 1)) (by decide +kernel) ?_
  refine Cr.ildn (v := 1) (by decide +kernel : zi 0 91 = some (.iload_n 1, 1)) rfl ?_
  refine Cr.ildn (v := 2) (by decide +kernel : zi 0 92 = some (.iload_n 2, 1)) rfl ?_
  refine Cr.isub (c := (-1)) (by decide +kernel : zi 0 93 = some (.isub, 1)) (by decide +kernel) ?_
  refine Cr.callJ (v := 1) (y2 := 229) (na := 1) (as := [it (-1)]) (rest := [it 6, rf 10]) (by decide +kernel : zi 0 94 = some (.invokestatic 36, 3)) rfl (by decide +kernel) (by decide +kernel) rfl rfl (zok_S rfl (by decide) (by decide +kernel) rfl (Nat.le_of_ble_eq_true rfl)) (k229 (by omega) (by decide +kernel)) ?_
  refine Cr.iast (c := 9) (N := 16) (by decide +kernel : zi 0 97 = some (.iastore, 1)) (by decide +kernel) (by decide) (by decide) (by decide) ?_
  refine Cr.iinc (v := 2) (lv2 := [some (rf 2), some (it 1), some (it 3)]) (by decide +kernel : zi 0 98 = some (.iinc 2 1, 3)) (Nat.le_of_ble_eq_true rfl) rfl (by decide +kernel) ?_
  refine Cr.goto (q := 77) (by decide +kernel : zi 0 101 = some (.goto (-24), 3)) (by decide +kernel) ?_
  refine Cr.ildn (v := 3) (by decide +kernel : zi 0 77 = some (.iload_n 2, 1)) rfl ?_
  refine Cr.iconst (by decide +kernel : zi 0 78 = some (.iconst 4, 1)) (by decide) ?_
  refine Cr.if2f (q := 104) (by decide +kernel : zi 0 79 = some (.if_icmp .ge 25, 3)) (by decide +kernel) (show ¬ (4 : Int) ≤ 3 by decide) ?_
  refine Cr.aldn (c := 2) (by decide +kernel : zi 0 82 = some (.aload_n 0, 1)) rfl ⟨by decide, by decide⟩ ?_
  refine Cr.getR (c := 1) (c2 := 10) (ci := 0) (k := 10) 10 (by decide +kernel : zi 0 83 = some (.getfield 33, 3)) (by decide +kernel) rfl (by decide +kernel) (by decide +kernel) (by decide) rfl (by rfl) ?_
  refine Cr.iconst (by decide +kernel : zi 0 86 = some (.iconst 4, 1)) (by decide) ?_
  refine Cr.ildn (v := 1) (by decide +kernel : zi 0 87 = some (.iload_n 1, 1)) rfl ?_
  refine Cr.imul (c := 4) (by decide +kernel : zi 0 88 = some (.imul, 1)) (by decide +kernel) ?_
  refine Cr.ildn (v := 3) (by decide +kernel : zi 0 89 = some (.iload_n 2, 1)) rfl ?_
  refine Cr.iadd (c := 7) (by decide +kernel : zi 0 90 = some (.iadd, 1)) (by decide +kernel) ?_
  refine Cr.ildn (v := 1) (by decide +kernel : zi 0 91 = some (.iload_n 1, 1)) rfl ?_
  refine Cr.ildn (v := 3) (by decide +kernel : zi 0 92 = some (.iload_n 2, 1)) rfl ?_
  refine Cr.isub (c := (-2)) (by decide +kernel : zi 0 93 = some (.isub, 1)) (by decide +kernel) ?_
  refine Cr.callJ (v := 2) (y2 := 229) (na := 1) (as := [it (-2)]) (rest := [it 7, rf 10]) (by decide +kernel : zi 0 94 = some (.invokestatic 36, 3)) rfl (by decide +kernel) (by decide +kernel) rfl rfl (zok_S rfl (by decide) (by decide +kernel) rfl (Nat.le_of_ble_eq_true rfl)) (k229 (by omega) (by decide +kernel)) ?_
  refine Cr.iast (c := 9) (N := 16) (by decide +kernel : zi 0 97 = some (.iastore, 1)) (by decide +kernel) (by decide) (by decide) (by decide) ?_
  refine Cr.iinc (v := 3) (lv2 := [some (rf 2), some (it 1), some (it 4)]) (by decide +kernel : zi 0 98 = some (.iinc 2 1, 3)) (Nat.le_of_ble_eq_true rfl) rfl (by decide +kernel) ?_
  refine Cr.goto (q := 77) (by decide +kernel : zi 0 101 = some (.goto (-24), 3)) (by decide +kernel) ?_
  refine Cr.ildn (v := 4) (by decide +kernel : zi 0 77 = some (.iload_n 2, 1)) rfl ?_
  refine Cr.iconst (by decide +kernel : zi 0 78 = some (.iconst 4, 1)) (by decide) ?_
  refine Cr.if2t (q := 104) (by decide +kernel : zi 0 79 = some (.if_icmp .ge 25, 3)) (by decide +kernel) (show (4 : Int) ≤ 4 by decide) ?_
  refine Cr.iinc (v := 1) (lv2 := [some (rf 2), some (it 2), some (it 4)]) (by decide +kernel : zi 0 104 = some (.iinc 1 1, 3)) (Nat.le_of_ble_eq_true rfl) rfl (by decide +kernel) ?_
  refine Cr.goto (q := 70) (by decide +kernel : zi 0 107 = some (.goto (-37), 3)) (by decide +kernel) ?_
  refine Cr.ildn (v := 2) (by decide +kernel : zi 0 70 = some (.iload_n 1, 1)) rfl ?_
  refine Cr.iconst (by decide +kernel : zi 0 71 = some (.iconst 4, 1)) (by decide) ?_
  refine Cr.if2f (q := 110) (by decide +kernel : zi 0 72 = some (.if_icmp .ge 38, 3)) (by decide +kernel) (show ¬ (4 : Int) ≤ 2 by decide) ?_
  refine Cr.iconst (by decide +kernel : zi 0 75 = some (.iconst 0, 1)) (by decide) ?_
  refine Cr.istn (lv2 := [some (rf 2), some (it 2), some (it 0)]) (by decide +kernel : zi 0 76 = some (.istore_n 2, 1)) (Nat.le_of_ble_eq_true rfl) rfl ?_
  refine Cr.ildn (v := 0) (by decide +kernel : zi 0 77 = some (.iload_n 2, 1)) rfl ?_
  refine Cr.iconst (by decide +kernel : zi 0 78 = some (.iconst 4, 1)) (by decide) ?_
  refine Cr.if2f (q := 104) (by decide +kernel : zi 0 79 = some (.if_icmp .ge 25, 3)) (by decide +kernel) (show ¬ (4 : Int) ≤ 0 by decide) ?_
  refine Cr.aldn (c := 2) (by decide +kernel : zi 0 82 = some (.aload_n 0, 1)) rfl ⟨by decide, by decide⟩ ?_
  refine Cr.getR (c := 1) (c2 := 10) (ci := 0) (k := 10) 10 (by decide +kernel : zi 0 83 = some (.getfield 33, 3)) (by decide +kernel) rfl (by decide +kernel) (by decide +kernel) (by decide) rfl (by rfl) ?_
  refine Cr.iconst (by decide +kernel : zi 0 86 = some (.iconst 4, 1)) (by decide) ?_
  refine Cr.ildn (v := 2) (by decide +kernel : zi 0 87 = some (.iload_n 1, 1)) rfl ?_
  refine Cr.imul (c := 8) (by decide +kernel : zi 0 88 = some (.imul, 1)) (by decide +kernel) ?_
  refine Cr.ildn (v := 0) (by decide +kernel : zi 0 89 = some (.iload_n 2, 1)) rfl ?_
  refine Cr.iadd (c := 8) (by decide +kernel : zi 0 90 = some (.iadd, 1)) (by decide +kernel) ?_
  refine Cr.ildn (v := 2) (by decide +kernel : zi 0 91 = some (.iload_n 1, 1)) rfl ?_
  refine Cr.ildn (v := 0) (by decide +kernel : zi 0 92 = some (.iload_n 2, 1)) rfl ?_
  refine Cr.isub (c := 2) (by decide +kernel : zi 0 93 = some (.isub, 1)) (by decide +kernel) ?_
  refine Cr.callJ (v := 2) (y2 := 229) (na := 1) (as := [it 2]) (rest := [it 8, rf 10]) (by decide +kernel : zi 0 94 = some (.invokestatic 36, 3)) rfl (by decide +kernel) (by decide +kernel) rfl rfl (zok_S rfl (by decide) (by decide +kernel) rfl (Nat.le_of_ble_eq_true rfl)) (k229 (by omega) (by decide +kernel)) ?_
  refine Cr.iast (c := 9) (N := 16) (by decide +kernel : zi 0 97 = some (.iastore, 1)) (by decide +kernel) (by decide) (by decide) (by decide) ?_
  refine Cr.iinc (v := 0) (lv2 := [some (rf 2), some (it 2), some (it 1)]) (by decide +kernel : zi 0 98 = some (.iinc 2 1, 3)) (Nat.le_of_ble_eq_true rfl) rfl (by decide +kernel) ?_
  refine Cr.goto (q := 77) (by decide +kernel : zi 0 101 = some (.goto (-24), 3)) (by decide +kernel) ?_
  refine Cr.ildn (v := 1) (by decide +kernel : zi 0 77 = some (.iload_n 2, 1)) rfl ?_
  refine Cr.iconst (by decide +kernel : zi 0 78 = some (.iconst 4, 1)) (by decide) ?_
  refine Cr.if2f (q := 104) (by decide +kernel : zi 0 79 = some (.if_icmp .ge 25, 3)) (by decide +kernel) (show ¬ (4 : Int) ≤ 1 by decide) ?_
  refine Cr.aldn (c := 2) (by decide +kernel : zi 0 82 = some (.aload_n 0, 1)) rfl ⟨by decide, by decide⟩ ?_
  refine Cr.getR (c := 1) (c2 := 10) (ci := 0) (k := 10) 10 (by decide +kernel : zi 0 83 = some (.getfield 33, 3)) (by decide +kernel) rfl (by decide +kernel) (by decide +kernel) (by decide) rfl (by rfl) ?_
  refine Cr.iconst (by decide +kernel : zi 0 86 = some (.iconst 4, 1)) (by decide) ?_
  refine Cr.ildn (v := 2) (by decide +kernel : zi 0 87 = some (.iload_n 1, 1)) rfl ?_
  refine Cr.imul (c := 8) (by decide +kernel : zi 0 88 = some (.imul, 1)) (by decide +kernel) ?_
  refine Cr.ildn (v := 1) (by decide +kernel : zi 0 89 = some (.iload_n 2, 1)) rfl ?_
  refine Cr.iadd (c := 9) (by decide +kernel : zi 0 90 = some (.iadd, 1)) (by decide +kernel) ?_
  refine Cr.ildn (v := 2) (by decide +kernel : zi 0 91 = some (.iload_n 1, 1)) rfl ?_
  refine Cr.ildn (v := 1) (by decide +kernel : zi 0 92 = some (.iload_n 2, 1)) rfl ?_
  refine Cr.isub (c := 1) (by decide +kernel : zi 0 93 = some (.isub, 1)) (by decide +kernel) ?_
  refine Cr.callJ (v := 1) (y2 := 229) (na := 1) (as := [it 1]) (rest := [it 9, rf 10]) (by decide +kernel : zi 0 94 = some (.invokestatic 36, 3)) rfl (by decide +kernel) (by decide +kernel) rfl rfl (zok_S rfl (by decide) (by decide +kernel) rfl (Nat.le_of_ble_eq_true rfl)) (k229 (by omega) (by decide +kernel)) ?_
  refine Cr.iast (c := 9) (N := 16) (by decide +kernel : zi 0 97 = some (.iastore, 1)) (by decide +kernel) (by decide) (by decide) (by decide) ?_
  refine Cr.iinc (v := 1) (lv2 := [some (rf 2), some (it 2), some (it 2)]) (by decide +kernel : zi 0 98 = some (.iinc 2 1, 3)) (Nat.le_of_ble_eq_true rfl) rfl (by decide +kernel) ?_
  refine Cr.goto (q := 77) (by decide +kernel : zi 0 101 = some (.goto (-24), 3)) (by decide +kernel) ?_
  refine Cr.ildn (v := 2) (by decide +kernel : zi 0 77 = some (.iload_n 2, 1)) rfl ?_
  refine Cr.iconst (by decide +kernel : zi 0 78 = some (.iconst 4, 1)) (by decide) ?_
  refine Cr.if2f (q := 104) (by decide +kernel : zi 0 79 = some (.if_icmp .ge 25, 3)) (by decide +kernel) (show ¬ (4 : Int) ≤ 2 by decide) ?_
  refine Cr.aldn (c := 2) (by decide +kernel : zi 0 82 = some (.aload_n 0, 1)) rfl ⟨by decide, by decide⟩ ?_
  refine Cr.getR (c := 1) (c2 := 10) (ci := 0) (k := 10) 10 (by decide +kernel : zi 0 83 = some (.getfield 33, 3)) (by decide +kernel) rfl (by decide +kernel) (by decide +kernel) (by decide) rfl (by rfl) ?_
  refine Cr.iconst (by decide +kernel : zi 0 86 = some (.iconst 4, 1)) (by decide) ?_
  refine Cr.ildn (v := 2) (by decide +kernel : zi 0 87 = some (.iload_n 1, 1)) rfl ?_
  refine Cr.imul (c := 8) (by decide +kernel : zi 0 88 = some (.imul, 1)) (by decide +kernel) ?_
  refine Cr.ildn (v := 2) (by decide +kernel : zi 0 89 = some (.iload_n 2, 1)) rfl ?_
  refine Cr.iadd (c := 10) (by decide +kernel : zi 0 90 = some (.iadd, 1)) (by decide +kernel) ?_
  refine Cr.ildn (v := 2) (by decide +kernel : zi 0 91 = some (.iload_n 1, 1)) rfl ?_
  refine Cr.ildn (v := 2) (by decide +kernel : zi 0 92 = some (.iload_n 2, 1)) rfl ?_
  refine Cr.isub (c := 0) (by decide +kernel : zi 0 93 = some (.isub, 1)) (by decide +kernel) ?_
  refine Cr.callJ (v := 0) (y2 := 229) (na := 1) (as := [it 0]) (rest := [it 10, rf 10]) (by decide +kernel : zi 0 94 = some (.invokestatic 36, 3)) rfl (by decide +kernel) (by decide +kernel) rfl rfl (zok_S rfl (by decide) (by decide +kernel) rfl (Nat.le_of_ble_eq_true rfl)) (k229 (by omega) (by decide +kernel)) ?_
  refine Cr.iast (c := 9) (N := 16) (by decide +kernel : zi 0 97 = some (.iastore, 1)) (by decide +kernel) (by decide) (by decide) (by decide) ?_
  refine Cr.iinc (v := 2) (lv2 := [some (rf 2), some (it 2), some (it 3)]) (by decide +kernel : zi 0 98 = some (.iinc 2 1, 3)) (Nat.le_of_ble_eq_true rfl) rfl (by decide +kernel) ?_
  refine Cr.goto (q := 77) (by decide +kernel : zi 0 101 = some (.goto (-24), 3)) (by decide +kernel) ?_
  refine Cr.ildn (v := 3) (by decide +kernel : zi 0 77 = some (.iload_n 2, 1)) rfl ?_
  refine Cr.iconst (by decide +kernel : zi 0 78 = some (.iconst 4, 1)) (by decide) ?_
  refine Cr.if2f (q := 104) (by decide +kernel : zi 0 79 = some (.if_icmp .ge 25, 3)) (by decide +kernel) (show ¬ (4 : Int) ≤ 3 by decide) ?_
  refine Cr.aldn (c := 2) (by decide +kernel : zi 0 82 = some (.aload_n 0, 1)) rfl ⟨by decide, by decide⟩ ?_
  refine Cr.getR (c := 1) (c2 := 10) (ci := 0) (k := 10) 10 (by decide +kernel : zi 0 83 = some (.getfield 33, 3)) (by decide +kernel) rfl (by decide +kernel) (by decide +kernel) (by decide) rfl (by rfl) ?_
  refine Cr.iconst (by decide +kernel : zi 0 86 = some (.iconst 4, 1)) (by decide) ?_
  refine Cr.ildn (v := 2) (by decide +kernel : zi 0 87 = some (.iload_n 1, 1)) rfl ?_
  refine Cr.imul (c := 8) (by decide +kernel : zi 0 88 = some (.imul, 1)) (by decide +kernel) ?_
  refine Cr.ildn (v := 3) (by decide +kernel : zi 0 89 = some (.iload_n 2, 1)) rfl ?_
  refine Cr.iadd (c := 11) (by decide +kernel : zi 0 90 = some (.iadd, 1)) (by decide +kernel) ?_
  refine Cr.ildn (v := 2) (by decide +kernel : zi 0 91 = some (.iload_n 1, 1)) rfl ?_
  refine Cr.ildn (v := 3) (by decide +kernel : zi 0 92 = some (.iload_n 2, 1)) rfl ?_
  refine Cr.isub (c := (-1)) (by decide +kernel : zi 0 93 = some (.isub, 1)) (by decide +kernel) ?_
  refine Cr.callJ (v := 1) (y2 := 229) (na := 1) (as := [it (-1)]) (rest := [it 11, rf 10]) (by decide +kernel : zi 0 94 = some (.invokestatic 36, 3)) rfl (by decide +kernel) (by decide +kernel) rfl rfl (zok_S rfl (by decide) (by decide +kernel) rfl (Nat.le_of_ble_eq_true rfl)) (k229 (by omega) (by decide +kernel)) ?_
  refine Cr.iast (c := 9) (N := 16) (by decide +kernel : zi 0 97 = some (.iastore, 1)) (by decide +kernel) (by decide) (by decide) (by decide) ?_
  refine Cr.iinc (v := 3) (lv2 := [some (rf 2), some (it 2), some (it 4)]) (by decide +kernel : zi 0 98 = some (.iinc 2 1, 3)) (Nat.le_of_ble_eq_true rfl) rfl (by decide +kernel) ?_
  refine Cr.goto (q := 77) (by decide +kernel : zi 0 101 = some (.goto (-24), 3)) (by decide +kernel) ?_
  refine Cr.ildn (v := 4) (by decide +kernel : zi 0 77 = some (.iload_n 2, 1)) rfl ?_
  refine Cr.iconst (by decide +kernel : zi 0 78 = some (.iconst 4, 1)) (by decide) ?_
  refine Cr.if2t (q := 104) (by decide +kernel : zi 0 79 = some (.if_icmp .ge 25, 3)) (by decide +kernel) (show (4 : Int) ≤ 4 by decide) ?_
  refine Cr.iinc (v := 2) (lv2 := [some (rf 2), some (it 3), some (it 4)]) (by decide +kernel : zi 0 104 = some (.iinc 1 1, 3)) (Nat.le_of_ble_eq_true rfl) rfl (by decide +kernel) ?_
  refine Cr.goto (q := 70) (by decide +kernel : zi 0 107 = some (.goto (-37), 3)) (by decide +kernel) ?_
  refine Cr.ildn (v := 3) (by decide +kernel : zi 0 70 = some (.iload_n 1, 1)) rfl ?_
  refine Cr.iconst (by decide +kernel : zi 0 71 = some (.iconst 4, 1)) (by decide) ?_
  refine Cr.if2f (q := 110) (by decide +kernel : zi 0 72 = some (.if_icmp .ge 38, 3)) (by decide +kernel) (show ¬ (4 : Int) ≤ 3 by decide) ?_
  refine Cr.iconst (by decide +kernel : zi 0 75 = some (.iconst 0, 1)) (by decide) ?_
  refine Cr.istn (lv2 := [some (rf 2), some (it 3), some (it 0)]) (by decide +kernel : zi 0 76 = some (.istore_n 2, 1)) (Nat.le_of_ble_eq_true rfl) rfl ?_
  refine Cr.ildn (v := 0) (by decide +kernel : zi 0 77 = some (.iload_n 2, 1)) rfl ?_
  refine Cr.iconst (by decide +kernel : zi 0 78 = some (.iconst 4, 1)) (by decide) ?_
  refine Cr.if2f (q := 104) (by decide +kernel : zi 0 79 = some (.if_icmp .ge 25, 3)) (by decide +kernel) (show ¬ (4 : Int) ≤ 0 by decide) ?_
  refine Cr.aldn (c := 2) (by decide +kernel : zi 0 82 = some (.aload_n 0, 1)) rfl ⟨by decide, by decide⟩ ?_
  refine Cr.getR (c := 1) (c2 := 10) (ci := 0) (k := 10) 10 (by decide +kernel : zi 0 83 = some (.getfield 33, 3)) (by decide +kernel) rfl (by decide +kernel) (by decide +kernel) (by decide) rfl (by rfl) ?_
  refine Cr.iconst (by decide +kernel : zi 0 86 = some (.iconst 4, 1)) (by decide) ?_
  refine Cr.ildn (v := 3) (by decide +kernel : zi 0 87 = some (.iload_n 1, 1)) rfl ?_
  refine Cr.imul (c := 12) (by decide +kernel : zi 0 88 = some (.imul, 1)) (by decide +kernel) ?_
  refine Cr.ildn (v := 0) (by decide +kernel : zi 0 89 = some (.iload_n 2, 1)) rfl ?_
  refine Cr.iadd (c := 12) (by decide +kernel : zi 0 90 = some (.iadd, 1)) (by decide +kernel) ?_
  refine Cr.ildn (v := 3) (by decide +kernel : zi 0 91 = some (.iload_n 1, 1)) rfl ?_
  refine Cr.ildn (v := 0) (by decide +kernel : zi 0 92 = some (.iload_n 2, 1)) rfl ?_
  refine Cr.isub (c := 3) (by decide +kernel : zi 0 93 = some (.isub, 1)) (by decide +kernel) ?_
  refine Cr.callJ (v := 3) (y2 := 229) (na := 1) (as := [it 3]) (rest := [it 12, rf 10]) (by decide +kernel : zi 0 94 = some (.invokestatic 36, 3)) rfl (by decide +kernel) (by decide +kernel) rfl rfl (zok_S rfl (by decide) (by decide +kernel) rfl (Nat.le_of_ble_eq_true rfl)) (k229 (by omega) (by decide +kernel)) ?_
  refine Cr.iast (c := 9) (N := 16) (by decide +kernel : zi 0 97 = some (.iastore, 1)) (by decide +kernel) (by decide) (by decide) (by decide) ?_
  refine Cr.iinc (v := 0) (lv2 := [some (rf 2), some (it 3), some (it 1)]) (by decide +kernel : zi 0 98 = some (.iinc 2 1, 3)) (Nat.le_of_ble_eq_true rfl) rfl (by decide +kernel) ?_
  refine Cr.goto (q := 77) (by decide +kernel : zi 0 101 = some (.goto (-24), 3)) (by decide +kernel) ?_
  refine Cr.ildn (v := 1) (by decide +kernel : zi 0 77 = some (.iload_n 2, 1)) rfl ?_
  refine Cr.iconst (by decide +kernel : zi 0 78 = some (.iconst 4, 1)) (by decide) ?_
  refine Cr.if2f (q := 104) (by decide +kernel : zi 0 79 = some (.if_icmp .ge 25, 3)) (by decide +kernel) (show ¬ (4 : Int) ≤ 1 by decide) ?_
  refine Cr.aldn (c := 2) (by decide +kernel : zi 0 82 = some (.aload_n 0, 1)) rfl ⟨by decide, by decide⟩ ?_
  refine Cr.getR (c := 1) (c2 := 10) (ci := 0) (k := 10) 10 (by decide +kernel : zi 0 83 = some (.getfield 33, 3)) (by decide +kernel) rfl (by decide +kernel) (by decide +kernel) (by decide) rfl (by rfl) ?_
  refine Cr.iconst (by decide +kernel : zi 0 86 = some (.iconst 4, 1)) (by decide) ?_
  refine Cr.ildn (v := 3) (by decide +kernel : zi 0 87 = some (.iload_n 1, 1)) rfl ?_
  refine Cr.imul (c := 12) (by decide +kernel : zi 0 88 = some (.imul, 1)) (by decide +kernel) ?_
  refine Cr.ildn (v := 1) (by decide +kernel : zi 0 89 = some (.iload_n 2, 1)) rfl ?_
  refine Cr.iadd (c := 13) (by decide +kernel : zi 0 90 = some (.iadd, 1)) (by decide +kernel) ?_
  refine Cr.ildn (v := 3) (by decide +kernel : zi 0 91 = some (.iload_n 1, 1)) rfl ?_
  refine Cr.ildn (v := 1) (by decide +kernel : zi 0 92 = some (.iload_n 2, 1)) rfl ?_
  refine Cr.isub (c := 2) (by decide +kernel : zi 0 93 = some (.isub, 1)) (by decide +kernel) ?_
  refine Cr.callJ (v := 2) (y2 := 229) (na := 1) (as := [it 2]) (rest := [it 13, rf 10]) (by decide +kernel : zi 0 94 = some (.invokestatic 36, 3)) rfl (by decide +kernel) (by decide +kernel) rfl rfl (zok_S rfl (by decide) (by decide +kernel) rfl (Nat.le_of_ble_eq_true rfl)) (k229 (by omega) (by decide +kernel)) ?_
  refine Cr.iast (c := 9) (N := 16) (by decide +kernel : zi 0 97 = some (.iastore, 1)) (by decide +kernel) (by decide) (by decide) (by decide) ?_
  refine Cr.iinc (v := 1) (lv2 := [some (rf 2), some (it 3), some (it 2)]) (by decide +kernel : zi 0 98 = some (.iinc 2 1, 3)) (Nat.le_of_ble_eq_true rfl) rfl (by decide +kernel) ?_
  refine Cr.goto (q := 77) (by decide +kernel : zi 0 101 = some (.goto (-24), 3)) (by decide +kernel) ?_
  refine Cr.ildn (v := 2) (by decide +kernel : zi 0 77 = some (.iload_n 2, 1)) rfl ?_
  refine Cr.iconst (by decide +kernel : zi 0 78 = some (.iconst 4, 1)) (by decide) ?_
  refine Cr.if2f (q := 104) (by decide +kernel : zi 0 79 = some (.if_icmp .ge 25, 3)) (by decide +kernel) (show ¬ (4 : Int) ≤ 2 by decide) ?_
  refine Cr.aldn (c := 2) (by decide +kernel : zi 0 82 = some (.aload_n 0, 1)) rfl ⟨by decide, by decide⟩ ?_
  refine Cr.getR (c := 1) (c2 := 10) (ci := 0) (k := 10) 10 (by decide +kernel : zi 0 83 = some (.getfield 33, 3)) (by decide +kernel) rfl (by decide +kernel) (by decide +kernel) (by decide) rfl (by rfl) ?_
  refine Cr.iconst (by decide +kernel : zi 0 86 = some (.iconst 4, 1)) (by decide) ?_
  refine Cr.ildn (v := 3) (by decide +kernel : zi 0 87 = some (.iload_n 1, 1)) rfl ?_
  refine Cr.imul (c := 12) (by decide +kernel : zi 0 88 = some (.imul, 1)) (by decide +kernel) ?_
  refine Cr.ildn (v := 2) (by decide +kernel : zi 0 89 = some (.iload_n 2, 1)) rfl ?_
  refine Cr.iadd (c := 14) (by decide +kernel : zi 0 90 = some (.iadd, 1)) (by decide +kernel) ?_
  refine Cr.ildn (v := 3) (by decide +kernel : zi 0 91 = some (.iload_n 1, 1)) rfl ?_
  refine Cr.ildn (v := 2) (by decide +kernel : zi 0 92 = some (.iload_n 2, 1)) rfl ?_
  refine Cr.isub (c := 1) (by decide +kernel : zi 0 93 = some (.isub, 1)) (by decide +kernel) ?_
  refine Cr.callJ (v := 1) (y2 := 229) (na := 1) (as := [it 1]) (rest := [it 14, rf 10]) (by decide +kernel : zi 0 94 = some (.invokestatic 36, 3)) rfl (by decide +kernel) (by decide +kernel) rfl rfl (zok_S rfl (by decide) (by decide +kernel) rfl (Nat.le_of_ble_eq_true rfl)) (k229 (by omega) (by decide +kernel)) ?_
  refine Cr.iast (c := 9) (N := 16) (by decide +kernel : zi 0 97 = some (.iastore, 1)) (by decide +kernel) (by decide) (by decide) (by decide) ?_
  refine Cr.iinc (v := 2) (lv2 := [some (rf 2), some (it 3), some (it 3)]) (by decide +kernel : zi 0 98 = some (.iinc 2 1, 3)) (Nat.le_of_ble_eq_true rfl) rfl (by decide +kernel) ?_
  refine Cr.goto (q := 77) (by decide +kernel : zi 0 101 = some (.goto (-24), 3)) (by decide +kernel) ?_
  refine Cr.ildn (v := 3) (by decide +kernel : zi 0 77 = some (.iload_n 2, 1)) rfl ?_
  refine Cr.iconst (by decide +kernel : zi 0 78 = some (.iconst 4, 1)) (by decide) ?_
  refine Cr.if2f (q := 104) (by decide +kernel : zi 0 79 = some (.if_icmp .ge 25, 3)) (by decide +kernel) (show ¬ (4 : Int) ≤ 3 by decide) ?_
  refine Cr.aldn (c := 2) (by decide +kernel : zi 0 82 = some (.aload_n 0, 1)) rfl ⟨by decide, by decide⟩ ?_
  refine Cr.getR (c := 1) (c2 := 10) (ci := 0) (k := 10) 10 (by decide +kernel : zi 0 83 = some (.getfield 33, 3)) (by decide +kernel) rfl (by decide +kernel) (by decide +kernel) (by decide) rfl (by rfl) ?_
  refine Cr.iconst (by decide +kernel : zi 0 86 = some (.iconst 4, 1)) (by decide) ?_
  refine Cr.ildn (v := 3) (by decide +kernel : zi 0 87 = some (.iload_n 1, 1)) rfl ?_
  refine Cr.imul (c := 12) (by decide +kernel : zi 0 88 = some (.imul, 1)) (by decide +kernel) ?_
  refine Cr.ildn (v := 3) (by decide +kernel : zi 0 89 = some (.iload_n 2, 1)) rfl ?_
  refine Cr.iadd (c := 15) (by decide +kernel : zi 0 90 = some (.iadd, 1)) (by decide +kernel) ?_
  refine Cr.ildn (v := 3) (by decide +kernel : zi 0 91 = some (.iload_n 1, 1)) rfl ?_
  refine Cr.ildn (v := 3) (by decide +kernel : zi 0 92 = some (.iload_n 2, 1)) rfl ?_
  refine Cr.isub (c := 0) (by decide +kernel : zi 0 93 = some (.isub, 1)) (by decide +kernel) ?_
  refine Cr.callJ (v := 0) (y2 := 229) (na := 1) (as := [it 0]) (rest := [it 15, rf 10]) (by decide +kernel : zi 0 94 = some (.invokestatic 36, 3)) rfl (by decide +kernel) (by decide +kernel) rfl rfl (zok_S rfl (by decide) (by decide +kernel) rfl (Nat.le_of_ble_eq_true rfl)) (k229 (by omega) (by decide +kernel)) ?_
  refine Cr.iast (c := 9) (N := 16) (by decide +kernel : zi 0 97 = some (.iastore, 1)) (by decide +kernel) (by decide) (by decide) (by decide) ?_
  refine Cr.iinc (v := 3) (lv2 := [some (rf 2), some (it 3), some (it 4)]) (by decide +kernel : zi 0 98 = some (.iinc 2 1, 3)) (Nat.le_of_ble_eq_true rfl) rfl (by decide +kernel) ?_
  refine Cr.goto (q := 77) (by decide +kernel : zi 0 101 = some (.goto (-24), 3)) (by decide +kernel) ?_
  refine Cr.ildn (v := 4) (by decide +kernel : zi 0 77 = some (.iload_n 2, 1)) rfl ?_
  refine Cr.iconst (by decide +kernel : zi 0 78 = some (.iconst 4, 1)) (by decide) ?_
  refine Cr.if2t (q := 104) (by decide +kernel : zi 0 79 = some (.if_icmp .ge 25, 3)) (by decide +kernel) (show (4 : Int) ≤ 4 by decide) ?_
  refine Cr.iinc (v := 3) (lv2 := [some (rf 2), some (it 4), some (it 4)]) (by decide +kernel : zi 0 104 = some (.iinc 1 1, 3)) (Nat.le_of_ble_eq_true rfl) rfl (by decide +kernel) ?_
  refine Cr.goto (q := 70) (by decide +kernel : zi 0 107 = some (.goto (-37), 3)) (by decide +kernel) ?_
  refine Cr.ildn (v := 4) (by decide +kernel : zi 0 70 = some (.iload_n 1, 1)) rfl ?_
  refine Cr.iconst (by decide +kernel : zi 0 71 = some (.iconst 4, 1)) (by decide) ?_
  refine Cr.if2t (q := 110) (by decide +kernel : zi 0 72 = some (.if_icmp .ge 38, 3)) (by decide +kernel) (show (4 : Int) ≤ 4 by decide) ?_
  exact Cr.retV (by decide +kernel : zi 0 110 = some (.return_, 1)) (by decide +kernel) h
theorem k0_11 {s : Pl} {Q : Option AV → Nat → Pl → Prop} (hd : 2 ≤ d) (h : Q none 19 (pap s [(11, none), (10, some (3, 12)), (12, none), (10, some (4, 13)), (13, none), (10, some (5, 14)), (14, none), (10, some (6, 15)), (15, none), (10, some (7, 16)), (16, none), (10, some (8, 17)), (17, none), (10, some (9, 18)), (18, none), (10, some (10, 19)), (18, some (0, 0)), (18, some (1, 1)), (18, some (2, 2)), (18, some (3, 3)), (18, some (4, 1)), (18, some (5, 0)), (18, some (6, 1)), (18, some (7, 2)), (18, some (8, 2)), (18, some (9, 1)), (18, some (10, 0)), (18, some (11, 1)), (18, some (12, 3)), (18, some (13, 2)), (18, some (14, 1)), (18, some (15, 0))])) : Er xs L d 0 [rf 11] 11 s Q := by
  obtain ⟨e, rfl⟩ : ∃ e, d = e + 1 := ⟨d - 1, by omega⟩
  refine Er.of (by decide) [some (rf 11), none, none] rfl ?_
  refine Cr.aldn (c := 11) (by decide +kernel : zi 0 0 = some (.aload_n 0, 1)) rfl ⟨by decide, by decide⟩ ?_
  refine Cr.oinit (c := 11) (by decide +kernel : zi 0 1 = some (.invokespecial 3, 3)) (by decide +kernel) (by decide +kernel) ⟨by decide, by decide⟩ (Nat.le_of_ble_eq_true rfl) ?_
  refine Cr.aldn (c := 11) (by decide +kernel : zi 0 4 = some (.aload_n 0, 1)) rfl ⟨by decide, by decide⟩ ?_
  refine Cr.bipush (by decide +kernel : zi 0 5 = some (.bipush 6, 2)) (by decide) ?_
  refine Cr.newarr (n2 := 12) (k := 6) (by decide +kernel : zi 0 7 = some (.newarray .int, 2)) (by decide +kernel) (by decide) (by decide) rfl ?_
  refine Cr.putR (c := 10) (w := 12) (ci := 0) (k := 3) 3 12 (by decide +kernel : zi 0 9 = some (.putfield 9, 3)) (by decide +kernel) (by decide +kernel) (by decide +kernel) (by decide) (by decide) (Or.inr ⟨by decide +kernel, by decide +kernel⟩) rfl rfl ?_
  refine Cr.aldn (c := 11) (by decide +kernel : zi 0 12 = some (.aload_n 0, 1)) rfl ⟨by decide, by decide⟩ ?_
  refine Cr.bipush (by decide +kernel : zi 0 13 = some (.bipush 6, 2)) (by decide) ?_
  refine Cr.newarr (n2 := 13) (k := 6) (by decide +kernel : zi 0 15 = some (.newarray .int, 2)) (by decide +kernel) (by decide) (by decide) rfl ?_
  refine Cr.putR (c := 10) (w := 13) (ci := 0) (k := 4) 4 13 (by decide +kernel : zi 0 17 = some (.putfield 15, 3)) (by decide +kernel) (by decide +kernel) (by decide +kernel) (by decide) (by decide) (Or.inr ⟨by decide +kernel, by decide +kernel⟩) rfl rfl ?_
  refine Cr.aldn (c := 11) (by decide +kernel : zi 0 20 = some (.aload_n 0, 1)) rfl ⟨by decide, by decide⟩ ?_
  refine Cr.bipush (by decide +kernel : zi 0 21 = some (.bipush 6, 2)) (by decide) ?_
  refine Cr.newarr (n2 := 14) (k := 6) (by decide +kernel : zi 0 23 = some (.newarray .int, 2)) (by decide +kernel) (by decide) (by decide) rfl ?_
  refine Cr.putR (c := 10) (w := 14) (ci := 0) (k := 5) 5 14 (by decide +kernel : zi 0 25 = some (.putfield 18, 3)) (by decide +kernel) (by decide +kernel) (by decide +kernel) (by decide) (by decide) (Or.inr ⟨by decide +kernel, by decide +kernel⟩) rfl rfl ?_
  refine Cr.aldn (c := 11) (by decide +kernel : zi 0 28 = some (.aload_n 0, 1)) rfl ⟨by decide, by decide⟩ ?_
  refine Cr.bipush (by decide +kernel : zi 0 29 = some (.bipush 6, 2)) (by decide) ?_
  refine Cr.newarr (n2 := 15) (k := 6) (by decide +kernel : zi 0 31 = some (.newarray .int, 2)) (by decide +kernel) (by decide) (by decide) rfl ?_
  refine Cr.putR (c := 10) (w := 15) (ci := 0) (k := 6) 6 15 (by decide +kernel : zi 0 33 = some (.putfield 21, 3)) (by decide +kernel) (by decide +kernel) (by decide +kernel) (by decide) (by decide) (Or.inr ⟨by decide +kernel, by decide +kernel⟩) rfl rfl ?_
  refine Cr.aldn (c := 11) (by decide +kernel : zi 0 36 = some (.aload_n 0, 1)) rfl ⟨by decide, by decide⟩ ?_
  refine Cr.bipush (by decide +kernel : zi 0 37 = some (.bipush 6, 2)) (by decide) ?_
  refine Cr.newarr (n2 := 16) (k := 6) (by decide +kernel : zi 0 39 = some (.newarray .int, 2)) (by decide +kernel) (by decide) (by decide) rfl ?_
  refine Cr.putR (c := 10) (w := 16) (ci := 0) (k := 7) 7 16 (by decide +kernel : zi 0 41 = some (.putfield 24, 3)) (by decide +kernel) (by decide +kernel) (by decide +kernel) (by decide) (by decide) (Or.inr ⟨by decide +kernel, by decide +kernel⟩) rfl rfl ?_
  refine Cr.aldn (c := 11) (by decide +kernel : zi 0 44 = some (.aload_n 0, 1)) rfl ⟨by decide, by decide⟩ ?_
  refine Cr.bipush (by decide +kernel : zi 0 45 = some (.bipush 6, 2)) (by decide) ?_
  refine Cr.newarr (n2 := 17) (k := 6) (by decide +kernel : zi 0 47 = some (.newarray .int, 2)) (by decide +kernel) (by decide) (by decide) rfl ?_
  refine Cr.putR (c := 10) (w := 17) (ci := 0) (k := 8) 8 17 (by decide +kernel : zi 0 49 = some (.putfield 27, 3)) (by decide +kernel) (by decide +kernel) (by decide +kernel) (by decide) (by decide) (Or.inr ⟨by decide +kernel, by decide +kernel⟩) rfl rfl ?_
  refine Cr.aldn (c := 11) (by decide +kernel : zi 0 52 = some (.aload_n 0, 1)) rfl ⟨by decide, by decide⟩ ?_
  refine Cr.bipush (by decide +kernel : zi 0 53 = some (.bipush 6, 2)) (by decide) ?_
  refine Cr.newarr (n2 := 18) (k := 6) (by decide +kernel : zi 0 55 = some (.newarray .int, 2)) (by decide +kernel) (by decide) (by decide) rfl ?_
  refine Cr.putR (c := 10) (w := 18) (ci := 0) (k := 9) 9 18 (by decide +kernel : zi 0 57 = some (.putfield 30, 3)) (by decide +kernel) (by decide +kernel) (by decide +kernel) (by decide) (by decide) (Or.inr ⟨by decide +kernel, by decide +kernel⟩) rfl rfl ?_
  refine Cr.aldn (c := 11) (by decide +kernel : zi 0 60 = some (.aload_n 0, 1)) rfl ⟨by decide, by decide⟩ ?_
  refine Cr.bipush (by decide +kernel : zi 0 61 = some (.bipush 16, 2)) (by decide) ?_
  refine Cr.newarr (n2 := 19) (k := 16) (by decide +kernel : zi 0 63 = some (.newarray .int, 2)) (by decide +kernel) (by decide) (by decide) rfl ?_
  refine Cr.putR (c := 10) (w := 19) (ci := 0) (k := 10) 10 19 (by decide +kernel : zi 0 65 = some (.putfield 33, 3)) (by decide +kernel) (by decide +kernel) (by decide +kernel) (by decide) (by decide) (Or.inr ⟨by decide +kernel, by decide +kernel⟩) rfl rfl ?_
  refine Cr.iconst (by decide +kernel : zi 0 68 = some (.iconst 0, 1)) (by decide) ?_
  refine Cr.istn (lv2 := [some (rf 11), some (it 0), none]) (by decide +kernel : zi 0 69 = some (.istore_n 1, 1)) (Nat.le_of_ble_eq_true rfl) rfl ?_
  refine Cr.ildn (v := 0) (by decide +kernel : zi 0 70 = some (.iload_n 1, 1)) rfl ?_
  refine Cr.iconst (by decide +kernel : zi 0 71 = some (.iconst 4, 1)) (by decide) ?_
  refine Cr.if2f (q := 110) (by decide +kernel : zi 0 72 = some (.if_icmp .ge 38, 3)) (by decide +kernel) (show ¬ (4 : Int) ≤ 0 by decide) ?_
  refine Cr.iconst (by decide +kernel : zi 0 75 = some (.iconst 0, 1)) (by decide) ?_
  refine Cr.istn (lv2 := [some (rf 11), some (it 0), some (it 0)]) (by decide +kernel : zi 0 76 = some (.istore_n 2, 1)) (Nat.le_of_ble_eq_true rfl) rfl ?_
  refine Cr.ildn (v := 0) (by decide +kernel : zi 0 77 = some (.iload_n 2, 1)) rfl ?_
  refine Cr.iconst (by decide +kernel : zi 0 78 = some (.iconst 4, 1)) (by decide) ?_
  refine Cr.if2f (q := 104) (by decide +kernel : zi 0 79 = some (.if_icmp .ge 25, 3)) (by decide +kernel) (show ¬ (4 : Int) ≤ 0 by decide) ?_
  refine Cr.aldn (c := 11) (by decide +kernel : zi 0 82 = some (.aload_n 0, 1)) rfl ⟨by decide, by decide⟩ ?_
  refine Cr.getR (c := 10) (c2 := 19) (ci := 0) (k := 10) 10 (by decide +kernel : zi 0 83 = some (.getfield 33, 3)) (by decide +kernel) rfl (by decide +kernel) (by decide +kernel) (by decide) rfl (by rfl) ?_
  refine Cr.iconst (by decide +kernel : zi 0 86 = some (.iconst 4, 1)) (by decide) ?_
  refine Cr.ildn (v := 0) (by decide +kernel : zi 0 87 = some (.iload_n 1, 1)) rfl ?_
  refine Cr.imul (c := 0) (by decide +kernel : zi 0 88 = some (.imul, 1)) (by decide +kernel) ?_
  refine Cr.ildn (v := 0) (by decide +kernel : zi 0 89 = some (.iload_n 2, 1)) rfl ?_
  refine Cr.iadd (c := 0) (by decide +kernel : zi 0 90 = some (.iadd, 1)) (by decide +kernel) ?_
  refine Cr.ildn (v := 0) (by decide +kernel : zi 0 91 = some (.iload_n 1, 1)) rfl ?_
  refine Cr.ildn (v := 0) (by decide +kernel : zi 0 92 = some (.iload_n 2, 1)) rfl ?_
  refine Cr.isub (c := 0) (by decide +kernel : zi 0 93 = some (.isub, 1)) (by decide +kernel) ?_
  refine Cr.callJ (v := 0) (y2 := 229) (na := 1) (as := [it 0]) (rest := [it 0, rf 19]) (by decide +kernel : zi 0 94 = some (.invokestatic 36, 3)) rfl (by decide +kernel) (by decide +kernel) rfl rfl (zok_S rfl (by decide) (by decide +kernel) rfl (Nat.le_of_ble_eq_true rfl)) (k229 (by omega) (by decide +kernel)) ?_
  refine Cr.iast (c := 18) (N := 16) (by decide +kernel : zi 0 97 = some (.iastore, 1)) (by decide +kernel) (by decide) (by decide) (by decide) ?_
  refine Cr.iinc (v := 0) (lv2 := [some (rf 11), some (it 0), some (it 1)]) (by decide +kernel : zi 0 98 = some (.iinc 2 1, 3)) (Nat.le_of_ble_eq_true rfl) rfl (by decide +kernel) ?_
  refine Cr.goto (q := 77) (by decide +kernel : zi 0 101 = some (.goto (-24), 3)) (by decide +kernel) ?_
  refine Cr.ildn (v := 1) (by decide +kernel : zi 0 77 = some (.iload_n 2, 1)) rfl ?_
  refine Cr.iconst (by decide +kernel : zi 0 78 = some (.iconst 4, 1)) (by decide) ?_
  refine Cr.if2f (q := 104) (by decide +kernel : zi 0 79 = some (.if_icmp .ge 25, 3)) (by decide +kernel) (show ¬ (4 : Int) ≤ 1 by decide) ?_
  refine Cr.aldn (c := 11) (by decide +kernel : zi 0 82 = some (.aload_n 0, 1)) rfl ⟨by decide, by decide⟩ ?_
  refine Cr.getR (c := 10) (c2 := 19) (ci := 0) (k := 10) 10 (by decide +kernel : zi 0 83 = some (.getfield 33, 3)) (by decide +kernel) rfl (by decide +kernel) (by decide +kernel) (by decide) rfl (by rfl) ?_
  refine Cr.iconst (by decide +kernel : zi 0 86 = some (.iconst 4, 1)) (by decide) ?_
  refine Cr.ildn (v := 0) (by decide +kernel : zi 0 87 = some (.iload_n 1, 1)) rfl ?_
  refine Cr.imul (c := 0) (by decide +kernel : zi 0 88 = some (.imul, 1)) (by decide +kernel) ?_
  refine Cr.ildn (v := 1) (by decide +kernel : zi 0 89 = some (.iload_n 2, 1)) rfl ?_
  refine Cr.iadd (c := 1) (by decide +kernel : zi 0 90 = some (.iadd, 1)) (by decide +kernel) ?_
  refine Cr.ildn (v := 0) (by decide +kernel : zi 0 91 = some (.iload_n 1, 1)) rfl ?_
  refine Cr.ildn (v := 1) (by decide +kernel : zi 0 92 = some (.iload_n 2, 1)) rfl ?_
  refine Cr.isub (c := (-1)) (by decide +kernel : zi 0 93 = some (.isub, 1)) (by decide +kernel) ?_
  refine Cr.callJ (v := 1) (y2 := 229) (na := 1) (as := [it (-1)]) (rest := [it 1, rf 19]) (by decide +kernel : zi 0 94 = some (.invokestatic 36, 3)) rfl (by decide +kernel) (by decide +kernel) rfl rfl (zok_S rfl (by decide) (by decide +kernel) rfl (Nat.le_of_ble_eq_true rfl)) (k229 (by omega) (by decide +kernel)) ?_
  refine Cr.iast (c := 18) (N := 16) (by decide +kernel : zi 0 97 = some (.iastore, 1)) (by decide +kernel) (by decide) (by decide) (by decide) ?_
  refine Cr.iinc (v := 1) (lv2 := [some (rf 11), some (it 0), some (it 2)]) (by decide +kernel : zi 0 98 = some (.iinc 2 1, 3)) (Nat.le_of_ble_eq_true rfl) rfl (by decide +kernel) ?_
  refine Cr.goto (q := 77) (by decide +kernel : zi 0 101 = some (.goto (-24), 3)) (by decide +kernel) ?_
  refine Cr.ildn (v := 2) (by decide +kernel : zi 0 77 = some (.iload_n 2, 1)) rfl ?_
  refine Cr.iconst (by decide +kernel : zi 0 78 = some (.iconst 4, 1)) (by decide) ?_
  refine Cr.if2f (q := 104) (by decide +kernel : zi 0 79 = some (.if_icmp .ge 25, 3)) (by decide +kernel) (show ¬ (4 : Int) ≤ 2 by decide) ?_
  refine Cr.aldn (c := 11) (by decide +kernel : zi 0 82 = some (.aload_n 0, 1)) rfl ⟨by decide, by decide⟩ ?_
  refine Cr.getR (c := 10) (c2 := 19) (ci := 0) (k := 10) 10 (by decide +kernel : zi 0 83 = some (.getfield 33, 3)) (by decide +kernel) rfl (by decide +kernel) (by decide +kernel) (by decide) rfl (by rfl) ?_
  refine Cr.iconst (by decide +kernel : zi 0 86 = some (.iconst 4, 1)) (by decide) ?_
  refine Cr.ildn (v := 0) (by decide +kernel : zi 0 87 = some (.iload_n 1, 1)) rfl ?_
  refine Cr.imul (c := 0) (by decide +kernel : zi 0 88 = some (.imul, 1)) (by decide +kernel) ?_
  refine Cr.ildn (v := 2) (by decide +kernel : zi 0 89 = some (.iload_n 2, 1)) rfl ?_
  refine Cr.iadd (c := 2) (by decide +kernel : zi 0 90 = some (.iadd, 1)) (by decide +kernel) ?_
  refine Cr.ildn (v := 0) (by decide +kernel : zi 0 91 = some (.iload_n 1, 1)) rfl ?_
  refine Cr.ildn (v := 2) (by decide +kernel : zi 0 92 = some (.iload_n 2, 1)) rfl ?_
  refine Cr.isub (c := (-2)) (by decide +kernel : zi 0 93 = some (.isub, 1)) (by decide +kernel) ?_
  refine Cr.callJ (v := 2) (y2 := 229) (na := 1) (as := [it (-2)]) (rest := [it 2, rf 19]) (by decide +kernel : zi 0 94 = some (.invokestatic 36, 3)) rfl (by decide +kernel) (by decide +kernel) rfl rfl (zok_S rfl (by decide) (by decide +kernel) rfl (Nat.le_of_ble_eq_true rfl)) (k229 (by omega) (by decide +kernel)) ?_
  refine Cr.iast (c := 18) (N := 16) (by decide +kernel : zi 0 97 = some (.iastore, 1)) (by decide +kernel) (by decide) (by decide) (by decide) ?_
  refine Cr.iinc (v := 2) (lv2 := [some (rf 11), some (it 0), some (it 3)]) (by decide +kernel : zi 0 98 = some (.iinc 2 1, 3)) (Nat.le_of_ble_eq_true rfl) rfl (by decide +kernel) ?_
  refine Cr.goto (q := 77) (by decide +kernel : zi 0 101 = some (.goto (-24), 3)) (by decide +kernel) ?_
  refine Cr.ildn (v := 3) (by decide +kernel : zi 0 77 = some (.iload_n 2, 1)) rfl ?_
  refine Cr.iconst (by decide +kernel : zi 0 78 = some (.iconst 4, 1)) (by decide) ?_
  refine Cr.if2f (q := 104) (by decide +kernel : zi 0 79 = some (.if_icmp .ge 25, 3)) (by decide +kernel) (show ¬ (4 : Int) ≤ 3 by decide) ?_
  refine Cr.aldn (c := 11) (by decide +kernel : zi 0 82 = some (.aload_n 0, 1)) rfl ⟨by decide, by decide⟩ ?_
  refine Cr.getR (c := 10) (c2 := 19) (ci := 0) (k := 10) 10 (by decide +kernel : zi 0 83 = some (.getfield 33, 3)) (by decide +kernel) rfl (by decide +kernel) (by decide +kernel) (by decide) rfl (by rfl) ?_
  refine Cr.iconst (by decide +kernel : zi 0 86 = some (.iconst 4, 1)) (by decide) ?_
  refine Cr.ildn (v := 0) (by decide +kernel : zi 0 87 = some (.iload_n 1, 1)) rfl ?_
  refine Cr.imul (c := 0) (by decide +kernel : zi 0 88 = some (.imul, 1)) (by decide +kernel) ?_
  refine Cr.ildn (v := 3) (by decide +kernel : zi 0 89 = some (.iload_n 2, 1)) rfl ?_
  refine Cr.iadd (c := 3) (by decide +kernel : zi 0 90 = some (.iadd, 1)) (by decide +kernel) ?_
  refine Cr.ildn (v := 0) (by decide +kernel : zi 0 91 = some (.iload_n 1, 1)) rfl ?_
  refine Cr.ildn (v := 3) (by decide +kernel : zi 0 92 = some (.iload_n 2, 1)) rfl ?_
  refine Cr.isub (c := (-3)) (by decide +kernel : zi 0 93 = some (.isub, 1)) (by decide +kernel) ?_
  refine Cr.callJ (v := 3) (y2 := 229) (na := 1) (as := [it (-3)]) (rest := [it 3, rf 19]) (by decide +kernel : zi 0 94 = some (.invokestatic 36, 3)) rfl (by decide +kernel) (by decide +kernel) rfl rfl (zok_S rfl (by decide) (by decide +kernel) rfl (Nat.le_of_ble_eq_true rfl)) (k229 (by omega) (by decide +kernel)) ?_
  refine Cr.iast (c := 18) (N := 16) (by decide +kernel : zi 0 97 = some (.iastore, 1)) (by decide +kernel) (by decide) (by decide) (by decide) ?_
  refine Cr.iinc (v := 3) (lv2 := [some (rf 11), some (it 0), some (it 4)]) (by decide +kernel : zi 0 98 = some (.iinc 2 1, 3)) (Nat.le_of_ble_eq_true rfl) rfl (by decide +kernel) ?_
  refine Cr.goto (q := 77) (by decide +kernel : zi 0 101 = some (.goto (-24), 3)) (by decide +kernel) ?_
  refine Cr.ildn (v := 4) (by decide +kernel : zi 0 77 = some (.iload_n 2, 1)) rfl ?_
  refine Cr.iconst (by decide +kernel : zi 0 78 = some (.iconst 4, 1)) (by decide) ?_
  refine Cr.if2t (q := 104) (by decide +kernel : zi 0 79 = some (.if_icmp .ge 25, 3)) (by decide +kernel) (show (4 : Int) ≤ 4 by decide) ?_
  refine Cr.iinc (v := 0) (lv2 := [some (rf 11), some (it 1), some (it 4)]) (by decide +kernel : zi 0 104 = some (.iinc 1 1, 3)) (Nat.le_of_ble_eq_true rfl) rfl (by decide +kernel) ?_
  refine Cr.goto (q := 70) (by decide +kernel : zi 0 107 = some (.goto (-37), 3)) (by decide +kernel) ?_
  refine Cr.ildn (v := 1) (by decide +kernel : zi 0 70 = some (.iload_n 1, 1)) rfl ?_
  refine Cr.iconst (by decide +kernel : zi 0 71 = some (.iconst 4, 1)) (by decide) ?_
  refine Cr.if2f (q := 110) (by decide +kernel : zi 0 72 = some (.if_icmp .ge 38, 3)) (by decide +kernel) (show ¬ (4 : Int) ≤ 1 by decide) ?_
  refine Cr.iconst (by decide +kernel : zi 0 75 = some (.iconst 0, 1)) (by decide) ?_
  refine Cr.istn (lv2 := [some (rf 11), some (it 1), some (it 0)]) (by decide +kernel : zi 0 76 = some (.istore_n 2, 1)) (Nat.le_of_ble_eq_true rfl) rfl ?_
  refine Cr.ildn (v := 0) (by decide +kernel : zi 0 77 = some (.iload_n 2, 1)) rfl ?_
  refine Cr.iconst (by decide +kernel : zi 0 78 = some (.iconst 4, 1)) (by decide) ?_
  refine Cr.if2f (q := 104) (by decide +kernel : zi 0 79 = some (.if_icmp .ge 25, 3)) (by decide +kernel) (show ¬ (4 : Int) ≤ 0 by decide) ?_
  refine Cr.aldn (c := 11) (by decide +kernel : zi 0 82 = some (.aload_n 0, 1)) rfl ⟨by decide, by decide⟩ ?_
  refine Cr.getR (c := 10) (c2 := 19) (ci := 0) (k := 10) 10 (by decide +kernel : zi 0 83 = some (.getfield 33, 3)) (by decide +kernel) rfl (by decide +kernel) (by decide +kernel) (by decide) rfl (by rfl) ?_
  refine Cr.iconst (by decide +kernel : zi 0 86 = some (.iconst 4, 1)) (by decide) ?_
  refine Cr.ildn (v := 1) (by decide +kernel : zi 0 87 = some (.iload_n 1, 1)) rfl ?_
  refine Cr.imul (c := 4) (by decide +kernel : zi 0 88 = some (.imul, 1)) (by decide +kernel) ?_
  refine Cr.ildn (v := 0) (by decide +kernel : zi 0 89 = some (.iload_n 2, 1)) rfl ?_
  refine Cr.iadd (c := 4) (by decide +kernel : zi 0 90 = some (.iadd, 1)) (by decide +kernel) ?_
  refine Cr.ildn (v := 1) (by decide +kernel : zi 0 91 = some (.iload_n 1, 1)) rfl ?_
  refine Cr.ildn (v := 0) (by decide +kernel : zi 0 92 = some (.iload_n 2, 1)) rfl ?_
  refine Cr.isub (c := 1) (by decide +kernel : zi 0 93 = some (.isub, 1)) (by decide +kernel) ?_
  refine Cr.callJ (v := 1) (y2 := 229) (na := 1) (as := [it 1]) (rest := [it 4, rf 19]) (by decide +kernel : zi 0 94 = some (.invokestatic 36, 3)) rfl (by decide +kernel) (by decide +kernel) rfl rfl (zok_S rfl (by decide) (by decide +kernel) rfl (Nat.le_of_ble_eq_true rfl)) (k229 (by omega) (by decide +kernel)) ?_
  refine Cr.iast (c := 18) (N := 16) (by decide +kernel : zi 0 97 = some (.iastore, 1)) (by decide +kernel) (by decide) (by decide) (by decide) ?_
  refine Cr.iinc (v := 0) (lv2 := [some (rf 11), some (it 1), some (it 1)]) (by decide +kernel : zi 0 98 = some (.iinc 2 1, 3)) (Nat.le_of_ble_eq_true rfl) rfl (by decide +kernel) ?_
  refine Cr.goto (q := 77) (by decide +kernel : zi 0 101 = some (.goto (-24), 3)) (by decide +kernel) ?_
  refine Cr.ildn (v := 1) (by decide +kernel : zi 0 77 = some (.iload_n 2, 1)) rfl ?_
  refine Cr.iconst (by decide +kernel : zi 0 78 = some (.iconst 4, 1)) (by decide) ?_
  refine Cr.if2f (q := 104) (by decide +kernel : zi 0 79 = some (.if_icmp .ge 25, 3)) (by decide +kernel) (show ¬ (4 : Int) ≤ 1 by decide) ?_
  refine Cr.aldn (c := 11) (by decide +kernel : zi 0 82 = some (.aload_n 0, 1)) rfl ⟨by decide, by decide⟩ ?_
  refine Cr.getR (c := 10) (c2 := 19) (ci := 0) (k := 10) 10 (by decide +kernel : zi 0 83 = some (.getfield 33, 3)) (by decide +kernel) rfl (by decide +kernel) (by decide +kernel) (by decide) rfl (by rfl) ?_
  refine Cr.iconst (by decide +kernel : zi 0 86 = some (.iconst 4, 1)) (by decide) ?_
  refine Cr.ildn (v := 1) (by decide +kernel : zi 0 87 = some (.iload_n 1, 1)) rfl ?_
  refine Cr.imul (c := 4) (by decide +kernel : zi 0 88 = some (.imul, 1)) (by decide +kernel) ?_
  refine Cr.ildn (v := 1) (by decide +kernel : zi 0 89 = some (.iload_n 2, 1)) rfl ?_
  refine Cr.iadd (c := 5) (by decide +kernel : zi 0 90 = some (.iadd, 1)) (by decide +kernel) ?_
  refine Cr.ildn (v := 1) (by decide +kernel : zi 0 91 = some (.iload_n 1, 1)) rfl ?_
  refine Cr.ildn (v := 1) (by decide +kernel : zi 0 92 = some (.iload_n 2, 1)) rfl ?_
  refine Cr.isub (c := 0) (by decide +kernel : zi 0 93 = some (.isub, 1)) (by decide +kernel) ?_
  refine Cr.callJ (v := 0) (y2 := 229) (na := 1) (as := [it 0]) (rest := [it 5, rf 19]) (by decide +kernel : zi 0 94 = some (.invokestatic 36, 3)) rfl (by decide +kernel) (by decide +kernel) rfl rfl (zok_S rfl (by decide) (by decide +kernel) rfl (Nat.le_of_ble_eq_true rfl)) (k229 (by omega) (by decide +kernel)) ?_
  refine Cr.iast (c := 18) (N := 16) (by decide +kernel : zi 0 97 = some (.iastore, 1)) (by decide +kernel) (by decide) (by decide) (by decide) ?_
  refine Cr.iinc (v := 1) (lv2 := [some (rf 11), some (it 1), some (it 2)]) (by decide +kernel : zi 0 98 = some (.iinc 2 1, 3)) (Nat.le_of_ble_eq_true rfl) rfl (by decide +kernel) ?_
  refine Cr.goto (q := 77) (by decide +kernel : zi 0 101 = some (.goto (-24), 3)) (by decide +kernel) ?_
  refine Cr.ildn (v := 2) (by decide +kernel : zi 0 77 = some (.iload_n 2, 1)) rfl ?_
  refine Cr.iconst (by decide +kernel : zi 0 78 = some (.iconst 4, 1)) (by decide) ?_
  refine Cr.if2f (q := 104) (by decide +kernel : zi 0 79 = some (.if_icmp .ge 25, 3)) (by decide +kernel) (show ¬ (4 : Int) ≤ 2 by decide) ?_
  refine Cr.aldn (c := 11) (by decide +kernel : zi 0 82 = some (.aload_n 0, 1)) rfl ⟨by decide, by decide⟩ ?_
  refine Cr.getR (c := 10) (c2 := 19) (ci := 0) (k := 10) 10 (by decide +kernel : zi 0 83 = some (.getfield 33, 3)) (by decide +kernel) rfl (by decide +kernel) (by decide +kernel) (by decide) rfl (by rfl) ?_
  refine Cr.iconst (by decide +kernel : zi 0 86 = some (.iconst 4, 1)) (by decide) ?_
  refine Cr.ildn (v := 1) (by decide +kernel : zi 0 87 = some (.iload_n 1, 1)) rfl ?_
  refine Cr.imul (c := 4) (by decide +kernel : zi 0 88 = some (.imul, 1)) (by decide +kernel) ?_
  refine Cr.ildn (v := 2) (by decide +kernel : zi 0 89 = some (.iload_n 2, 1)) rfl ?_
  refine Cr.iadd (c := 6) (by decide +kernel : zi 0 90 = some (.iadd, 1)) (by decide +kernel) ?_
  refine Cr.ildn (v := 1) (by decide +kernel : zi 0 91 = some (.iload_n 1, 1)) rfl ?_
  refine Cr.ildn (v := 2) (by decide +kernel : zi 0 92 = some (.iload_n 2, 1)) rfl ?_
  refine Cr.isub (c := (-1)) (by decide +kernel : zi 0 93 = some (.isub, 1)) (by decide +kernel) ?_
  refine Cr.callJ (v := 1) (y2 := 229) (na := 1) (as := [it (-1)]) (rest := [it 6, rf 19]) (by decide +kernel : zi 0 94 = some (.invokestatic 36, 3)) rfl (by decide +kernel) (by decide +kernel) rfl rfl (zok_S rfl (by decide) (by decide +kernel) rfl (Nat.le_of_ble_eq_true rfl)) (k229 (by omega) (by decide +kernel)) ?_
  refine Cr.iast (c := 18) (N := 16) (by decide +kernel : zi 0 97 = some (.iastore, 1)) (by decide +kernel) (by decide) (by decide) (by decide) ?_
  refine Cr.iinc (v := 2) (lv2 := [some (rf 11), some (it 1), some (it 3)]) (by decide +kernel : zi 0 98 = some (.iinc 2 1, 3)) (Nat.le_of_ble_eq_true rfl) rfl (by decide +kernel) ?_
  refine Cr.goto (q := 77) (by decide +kernel : zi 0 101 = some (.goto (-24), 3)) (by decide +kernel) ?_
  refine Cr.ildn (v := 3) (by decide +kernel : zi 0 77 = some (.iload_n 2, 1)) rfl ?_
  refine Cr.iconst (by decide +kernel : zi 0 78 = some (.iconst 4, 1)) (by decide) ?_
  refine Cr.if2f (q := 104) (by decide +kernel : zi 0 79 = some (.if_icmp .ge 25, 3)) (by decide +kernel) (show ¬ (4 : Int) ≤ 3 by decide) ?_
  refine Cr.aldn (c := 11) (by decide +kernel : zi 0 82 = some (.aload_n 0, 1)) rfl ⟨by decide, by decide⟩ ?_
  refine Cr.getR (c := 10) (c2 := 19) (ci := 0) (k := 10) 10 (by decide +kernel : zi 0 83 = some (.getfield 33, 3)) (by decide +kernel) rfl (by decide +kernel) (by decide +kernel) (by decide) rfl (by rfl) ?_
  refine Cr.iconst (by decide +kernel : zi 0 86 = some (.iconst 4, 1)) (by decide) ?_
  refine Cr.ildn (v := 1) (by decide +kernel : zi 0 87 = some (.iload_n 1, 1)) rfl ?_
  refine Cr.imul (c := 4) (by decide +kernel : zi 0 88 = some (.imul, 1)) (by decide +kernel) ?_
  refine Cr.ildn (v := 3) (by decide +kernel : zi 0 89 = some (.iload_n 2, 1)) rfl ?_
  refine Cr.iadd (c := 7) (by decide +kernel : zi 0 90 = some (.iadd, 1)) (by decide +kernel) ?_
  refine Cr.ildn (v := 1) (by decide +kernel : zi 0 91 = some (.iload_n 1, 1)) rfl ?_
  refine Cr.ildn (v := 3) (by decide +kernel : zi 0 92 = some (.iload_n 2, 1)) rfl ?_
  refine Cr.isub (c := (-2)) (by decide +kernel : zi 0 93 = some (.isub, 1)) (by decide +kernel) ?_
  refine Cr.callJ (v := 2) (y2 := 229) (na := 1) (as := [it (-2)]) (rest := [it 7, rf 19]) (by decide +kernel : zi 0 94 = some (.invokestatic 36, 3)) rfl (by decide +kernel) (by decide +kernel) rfl rfl (zok_S rfl (by decide) (by decide +kernel) rfl (Nat.le_of_ble_eq_true rfl)) (k229 (by omega) (by decide +kernel)) ?_
  refine Cr.iast (c := 18) (N := 16) (by decide +kernel : zi 0 97 = some (.iastore, 1)) (by decide +kernel) (by decide) (by decide) (by decide) ?_
  refine Cr.iinc (v := 3) (lv2 := [some (rf 11), some (it 1), some (it 4)]) (by decide +kernel : zi 0 98 = some (.iinc 2 1, 3)) (Nat.le_of_ble_eq_true rfl) rfl (by decide +kernel) ?_
  refine Cr.goto (q := 77) (by decide +kernel : zi 0 101 = some (.goto (-24), 3)) (by decide +kernel) ?_
  refine Cr.ildn (v := 4) (by decide +kernel : zi 0 77 = some (.iload_n 2, 1)) rfl ?_
  refine Cr.iconst (by decide +kernel : zi 0 78 = some (.iconst 4, 1)) (by decide) ?_
  refine Cr.if2t (q := 104) (by decide +kernel : zi 0 79 = some (.if_icmp .ge 25, 3)) (by decide +kernel) (show (4 : Int) ≤ 4 by decide) ?_
  refine Cr.iinc (v := 1) (lv2 := [some (rf 11), some (it 2), some (it 4)]) (by decide +kernel : zi 0 104 = some (.iinc 1 1, 3)) (Nat.le_of_ble_eq_true rfl) rfl (by decide +kernel) ?_
  refine Cr.goto (q := 70) (by decide +kernel : zi 0 107 = some (.goto (-37), 3)) (by decide +kernel) ?_
  refine Cr.ildn (v := 2) (by decide +kernel : zi 0 70 = some (.iload_n 1, 1)) rfl ?_
  refine Cr.iconst (by decide +kernel : zi 0 71 = some (.iconst 4, 1)) (by decide) ?_
  refine Cr.if2f (q := 110) (by decide +kernel : zi 0 72 = some (.if_icmp .ge 38, 3)) (by decide +kernel) (show ¬ (4 : Int) ≤ 2 by decide) ?_
  refine Cr.iconst (by decide +kernel : zi 0 75 = some (.iconst 0, 1)) (by decide) ?_
  refine Cr.istn (lv2 := [some (rf 11), some (it 2), some (it 0)]) (by decide +kernel : zi 0 76 = some (.istore_n 2, 1)) (Nat.le_of_ble_eq_true rfl) rfl ?_
  refine Cr.ildn (v := 0) (by decide +kernel : zi 0 77 = some (.iload_n 2, 1)) rfl ?_
  refine Cr.iconst (by decide +kernel : zi 0 78 = some (.iconst 4, 1)) (by decide) ?_
  refine Cr.if2f (q := 104) (by decide +kernel : zi 0 79 = some (.if_icmp .ge 25, 3)) (by decide +kernel) (show ¬ (4 : Int) ≤ 0 by decide) ?_
  refine Cr.aldn (c := 11) (by decide +kernel : zi 0 82 = some (.aload_n 0, 1)) rfl ⟨by decide, by decide⟩ ?_
  refine Cr.getR (c := 10) (c2 := 19) (ci := 0) (k := 10) 10 (by decide +kernel : zi 0 83 = some (.getfield 33, 3)) (by decide +kernel) rfl (by decide +kernel) (by decide +kernel) (by decide) rfl (by rfl) ?_
  refine Cr.iconst (by decide +kernel : zi 0 86 = some (.iconst 4, 1)) (by decide) ?_
  refine Cr.ildn (v := 2) (by decide +kernel : zi 0 87 = some (.iload_n 1, 1)) rfl ?_
  refine Cr.imul (c := 8) (by decide +kernel : zi 0 88 = some (.imul, 1)) (by decide +kernel) ?_
  refine Cr.ildn (v := 0) (by decide +kernel : zi 0 89 = some (.iload_n 2, 1)) rfl ?_
  refine Cr.iadd (c := 8) (by decide +kernel : zi 0 90 = some (.iadd, 1)) (by decide +kernel) ?_
  refine Cr.ildn (v := 2) (by decide +kernel : zi 0 91 = some (.iload_n 1, 1)) rfl ?_
  refine Cr.ildn (v := 0) (by decide +kernel : zi 0 92 = some (.iload_n 2, 1)) rfl ?_
  refine Cr.isub (c := 2) (by decide +kernel : zi 0 93 = some (.isub, 1)) (by decide +kernel) ?_
  refine Cr.callJ (v := 2) (y2 := 229) (na := 1) (as := [it 2]) (rest := [it 8, rf 19]) (by decide +kernel : zi 0 94 = some (.invokestatic 36, 3)) rfl (by decide +kernel) (by decide +kernel) rfl rfl (zok_S rfl (by decide) (by decide +kernel) rfl (Nat.le_of_ble_eq_true rfl)) (k229 (by omega) (by decide +kernel)) ?_
  refine Cr.iast (c := 18) (N := 16) (by decide +kernel : zi 0 97 = some (.iastore, 1)) (by decide +kernel) (by decide) (by decide) (by decide) ?_
  refine Cr.iinc (v := 0) (lv2 := [some (rf 11), some (it 2), some (it 1)]) (by decide +kernel : zi 0 98 = some (.iinc 2 1, 3)) (Nat.le_of_ble_eq_true rfl) rfl (by decide +kernel) ?_
  refine Cr.goto (q := 77) (by decide +kernel : zi 0 101 = some (.goto (-24), 3)) (by decide +kernel) ?_
  refine Cr.ildn (v := 1) (by decide +kernel : zi 0 77 = some (.iload_n 2, 1)) rfl ?_
  refine Cr.iconst (by decide +kernel : zi 0 78 = some (.iconst 4, 1)) (by decide) ?_
  refine Cr.if2f (q := 104) (by decide +kernel : zi 0 79 = some (.if_icmp .ge 25, 3)) (by decide +kernel) (show ¬ (4 : Int) ≤ 1 by decide) ?_
  refine Cr.aldn (c := 11) (by decide +kernel : zi 0 82 = some (.aload_n 0, 1)) rfl ⟨by decide, by decide⟩ ?_
  refine Cr.getR (c := 10) (c2 := 19) (ci := 0) (k := 10) 10 (by decide +kernel : zi 0 83 = some (.getfield 33, 3)) (by decide +kernel) rfl (by decide +kernel) (by decide +kernel) (by decide) rfl (by rfl) ?_
  refine Cr.iconst (by decide +kernel : zi 0 86 = some (.iconst 4, 1)) (by decide) ?_
  refine Cr.ildn (v := 2) (by decide +kernel : zi 0 87 = some (.iload_n 1, 1)) rfl ?_
  refine Cr.imul (c := 8) (by decide +kernel : zi 0 88 = some (.imul, 1)) (by decide +kernel) ?_
  refine Cr.ildn (v := 1) (by decide +kernel : zi 0 89 = some (.iload_n 2, 1)) rfl ?_
  refine Cr.iadd (c := 9) (by decide +kernel : zi 0 90 = some (.iadd, 1)) (by decide +kernel) ?_
  refine Cr.ildn (v := 2) (by decide +kernel : zi 0 91 = some (.iload_n 1, 1)) rfl ?_
  refine Cr.ildn (v := 1) (by decide +kernel : zi 0 92 = some (.iload_n 2, 1)) rfl ?_
  refine Cr.isub (c := 1) (by decide +kernel : zi 0 93 = some (.isub, 1)) (by decide +kernel) ?_
  refine Cr.callJ (v := 1) (y2 := 229) (na := 1) (as := [it 1]) (rest := [it 9, rf 19]) (by decide +kernel : zi 0 94 = some (.invokestatic 36, 3)) rfl (by decide +kernel) (by decide +kernel) rfl rfl (zok_S rfl (by decide) (by decide +kernel) rfl (Nat.le_of_ble_eq_true rfl)) (k229 (by omega) (by decide +kernel)) ?_
  refine Cr.iast (c := 18) (N := 16) (by decide +kernel : zi 0 97 = some (.iastore, 1)) (by decide +kernel) (by decide) (by decide) (by decide) ?_
  refine Cr.iinc (v := 1) (lv2 := [some (rf 11), some (it 2), some (it 2)]) (by decide +kernel : zi 0 98 = some (.iinc 2 1, 3)) (Nat.le_of_ble_eq_true rfl) rfl (by decide +kernel) ?_
  refine Cr.goto (q := 77) (by decide +kernel : zi 0 101 = some (.goto (-24), 3)) (by decide +kernel) ?_
  refine Cr.ildn (v := 2) (by decide +kernel : zi 0 77 = some (.iload_n 2, 1)) rfl ?_
  refine Cr.iconst (by decide +kernel : zi 0 78 = some (.iconst 4, 1)) (by decide) ?_
  refine Cr.if2f (q := 104) (by decide +kernel : zi 0 79 = some (.if_icmp .ge 25, 3)) (by decide +kernel) (show ¬ (4 : Int) ≤ 2 by decide) ?_
  refine Cr.aldn (c := 11) (by decide +kernel : zi 0 82 = some (.aload_n 0, 1)) rfl ⟨by decide, by decide⟩ ?_
  refine Cr.getR (c := 10) (c2 := 19) (ci := 0) (k := 10) 10 (by decide +kernel : zi 0 83 = some (.getfield 33, 3)) (by decide +kernel) rfl (by decide +kernel) (by decide +kernel) (by decide) rfl (by rfl) ?_
  refine Cr.iconst (by decide +kernel : zi 0 86 = some (.iconst 4, 1)) (by decide) ?_
  refine Cr.ildn (v := 2) (by decide +kernel : zi 0 87 = some (.iload_n 1, 1)) rfl ?_
  refine Cr.imul (c := 8) (by decide +kernel : zi 0 88 = some (.imul, 1)) (by decide +kernel) ?_
  refine Cr.ildn (v := 2) (by decide +kernel : zi 0 89 = some (.iload_n 2, 1)) rfl ?_
  refine Cr.iadd (c := 10) (by decide +kernel : zi 0 90 = some (.iadd, 1)) (by decide +kernel) ?_
  refine Cr.ildn (v := 2) (by decide +kernel : zi 0 91 = some (.iload_n 1, 1)) rfl ?_
  refine Cr.ildn (v := 2) (by decide +kernel : zi 0 92 = some (.iload_n 2, 1)) rfl ?_
  refine Cr.isub (c := 0) (by decide +kernel : zi 0 93 = some (.isub, 1)) (by decide +kernel) ?_
  refine Cr.callJ (v := 0) (y2 := 229) (na := 1) (as := [it 0]) (rest := [it 10, rf 19]) (by decide +kernel : zi 0 94 = some (.invokestatic 36, 3)) rfl (by decide +kernel) (by decide +kernel) rfl rfl (zok_S rfl (by decide) (by decide +kernel) rfl (Nat.le_of_ble_eq_true rfl)) (k229 (by omega) (by decide +kernel)) ?_
  refine Cr.iast (c := 18) (N := 16) (by decide +kernel : zi 0 97 = some (.iastore, 1)) (by decide +kernel) (by decide) (by decide) (by decide) ?_
  refine Cr.iinc (v := 2) (lv2 := [some (rf 11), some (it 2), some (it 3)]) (by decide +kernel : zi 0 98 = some (.iinc 2 1, 3)) (Nat.le_of_ble_eq_true rfl) rfl (by decide +kernel) ?_
  refine Cr.goto (q := 77) (by decide +kernel : zi 0 101 = some (.goto (-24), 3)) (by decide +kernel) ?_
  refine Cr.ildn (v := 3) (by decide +kernel : zi 0 77 = some (.iload_n 2, 1)) rfl ?_
  refine Cr.iconst (by decide +kernel : zi 0 78 = some (.iconst 4, 1)) (by decide) ?_
  refine Cr.if2f (q := 104) (by decide +kernel : zi 0 79 = some (.if_icmp .ge 25, 3)) (by decide +kernel) (show ¬ (4 : Int) ≤ 3 by decide) ?_
  refine Cr.aldn (c := 11) (by decide +kernel : zi 0 82 = some (.aload_n 0, 1)) rfl ⟨by decide, by decide⟩ ?_
  refine Cr.getR (c := 10) (c2 := 19) (ci := 0) (k := 10) 10 (by decide +kernel : zi 0 83 = some (.getfield 33, 3)) (by decide +kernel) rfl (by decide +kernel) (by decide +kernel) (by decide) rfl (by rfl) ?_
  refine Cr.iconst (by decide +kernel : zi 0 86 = some (.iconst 4, 1)) (by decide) ?_
  refine Cr.ildn (v := 2) (by decide +kernel : zi 0 87 = some (.iload_n 1, 1)) rfl ?_
  refine Cr.imul (c := 8) (by decide +kernel : zi 0 88 = some (.imul, 1)) (by decide +kernel) ?_
  refine Cr.ildn (v := 3) (by decide +kernel : zi 0 89 = some (.iload_n 2, 1)) rfl ?_
  refine Cr.iadd (c := 11) (by decide +kernel : zi 0 90 = some (.iadd, 1)) (by decide +kernel) ?_
  refine Cr.ildn (v := 2) (by decide +kernel : zi 0 91 = some (.iload_n 1, 1)) rfl ?_
  refine Cr.ildn (v := 3) (by decide +kernel : zi 0 92 = some (.iload_n 2, 1)) rfl ?_
  refine Cr.isub (c := (-1)) (by decide +kernel : zi 0 93 = some (.isub, 1)) (by decide +kernel) ?_
  refine Cr.callJ (v := 1) (y2 := 229) (na := 1) (as := [it (-1)]) (rest := [it 11, rf 19]) (by decide +kernel : zi 0 94 = some (.invokestatic 36, 3)) rfl (by decide +kernel) (by decide +kernel) rfl rfl (zok_S rfl (by decide) (by decide +kernel) rfl (Nat.le_of_ble_eq_true rfl)) (k229 (by omega) (by decide +kernel)) ?_
  refine Cr.iast (c := 18) (N := 16) (by decide +kernel : zi 0 97 = some (.iastore, 1)) (by decide +kernel) (by decide) (by decide) (by decide) ?_
  refine Cr.iinc (v := 3) (lv2 := [some (rf 11), some (it 2), some (it 4)]) (by decide +kernel : zi 0 98 = some (.iinc 2 1, 3)) (Nat.le_of_ble_eq_true rfl) rfl (by decide +kernel) ?_
  refine Cr.goto (q := 77) (by decide +kernel : zi 0 101 = some (.goto (-24), 3)) (by decide +kernel) ?_
  refine Cr.ildn (v := 4) (by decide +kernel : zi 0 77 = some (.iload_n 2, 1)) rfl ?_
  refine Cr.iconst (by decide +kernel : zi 0 78 = some (.iconst 4, 1)) (by decide) ?_
  refine Cr.if2t (q := 104) (by decide +kernel : zi 0 79 = some (.if_icmp .ge 25, 3)) (by decide +kernel) (show (4 : Int) ≤ 4 by decide) ?_
  refine Cr.iinc (v := 2) (lv2 := [some (rf 11), some (it 3), some (it 4)]) (by decide +kernel : zi 0 104 = some (.iinc 1 1, 3)) (Nat.le_of_ble_eq_true rfl) rfl (by decide +kernel) ?_
  refine Cr.goto (q := 70) (by decide +kernel : zi 0 107 = some (.goto (-37), 3)) (by decide +kernel) ?_
  refine Cr.ildn (v := 3) (by decide +kernel : zi 0 70 = some (.iload_n 1, 1)) rfl ?_
  refine Cr.iconst (by decide +kernel : zi 0 71 = some (.iconst 4, 1)) (by decide) ?_
  refine Cr.if2f (q := 110) (by decide +kernel : zi 0 72 = some (.if_icmp .ge 38, 3)) (by decide +kernel) (show ¬ (4 : Int) ≤ 3 by decide) ?_
  refine Cr.iconst (by decide +kernel : zi 0 75 = some (.iconst 0, 1)) (by decide) ?_
  refine Cr.istn (lv2 := [some (rf 11), some (it 3), some (it 0)]) (by decide +kernel : zi 0 76 = some (.istore_n 2, 1)) (Nat.le_of_ble_eq_true rfl) rfl ?_
  refine Cr.ildn (v := 0) (by decide +kernel : zi 0 77 = some (.iload_n 2, 1)) rfl ?_
  refine Cr.iconst (by decide +kernel : zi 0 78 = some (.iconst 4, 1)) (by decide) ?_
  refine Cr.if2f (q := 104) (by decide +kernel : zi 0 79 = some (.if_icmp .ge 25, 3)) (by decide +kernel) (show ¬ (4 : Int) ≤ 0 by decide) ?_
  refine Cr.aldn (c := 11) (by decide +kernel : zi 0 82 = some (.aload_n 0, 1)) rfl ⟨by decide, by decide⟩ ?_
  refine Cr.getR (c := 10) (c2 := 19) (ci := 0) (k := 10) 10 (by decide +kernel : zi 0 83 = some (.getfield 33, 3)) (by decide +kernel) rfl (by decide +kernel) (by decide +kernel) (by decide) rfl (by rfl) ?_
  refine Cr.iconst (by decide +kernel : zi 0 86 = some (.iconst 4, 1)) (by decide) ?_
  refine Cr.ildn (v := 3) (by decide +kernel : zi 0 87 = some (.iload_n 1, 1)) rfl ?_
  refine Cr.imul (c := 12) (by decide +kernel : zi 0 88 = some (.imul, 1)) (by decide +kernel) ?_
  refine Cr.ildn (v := 0) (by decide +kernel : zi 0 89 = some (.iload_n 2, 1)) rfl ?_
  refine Cr.iadd (c := 12) (by decide +kernel : zi 0 90 = some (.iadd, 1)) (by decide +kernel) ?_
  refine Cr.ildn (v := 3) (by decide +kernel : zi 0 91 = some (.iload_n 1, 1)) rfl ?_
  refine Cr.ildn (v := 0) (by decide +kernel : zi 0 92 = some (.iload_n 2, 1)) rfl ?_
  refine Cr.isub (c := 3) (by decide +kernel : zi 0 93 = some (.isub, 1)) (by decide +kernel) ?_
  refine Cr.callJ (v := 3) (y2 := 229) (na := 1) (as := [it 3]) (rest := [it 12, rf 19]) (by decide +kernel : zi 0 94 = some (.invokestatic 36, 3)) rfl (by decide +kernel) (by decide +kernel) rfl rfl (zok_S rfl (by decide) (by decide +kernel) rfl (Nat.le_of_ble_eq_true rfl)) (k229 (by omega) (by decide +kernel)) ?_
  refine Cr.iast (c := 18) (N := 16) (by decide +kernel : zi 0 97 = some (.iastore, 1)) (by decide +kernel) (by decide) (by decide) (by decide) ?_
  refine Cr.iinc (v := 0) (lv2 := [some (rf 11), some (it 3), some (it 1)]) (by decide +kernel : zi 0 98 = some (.iinc 2 1, 3)) (Nat.le_of_ble_eq_true rfl) rfl (by decide +kernel) ?_
  refine Cr.goto (q := 77) (by decide +kernel : zi 0 101 = some (.goto (-24), 3)) (by decide +kernel) ?_
  refine Cr.ildn (v := 1) (by decide +kernel : zi 0 77 = some (.iload_n 2, 1)) rfl ?_
  refine Cr.iconst (by decide +kernel : zi 0 78 = some (.iconst 4, 1)) (by decide) ?_
  refine Cr.if2f (q := 104) (by decide +kernel : zi 0 79 = some (.if_icmp .ge 25, 3)) (by decide +kernel) (show ¬ (4 : Int) ≤ 1 by decide) ?_
  refine Cr.aldn (c := 11) (by decide +kernel : zi 0 82 = some (.aload_n 0, 1)) rfl ⟨by decide, by decide⟩ ?_
  refine Cr.getR (c := 10) (c2 := 19) (ci := 0) (k := 10) 10 (by decide +kernel : zi 0 83 = some (.getfield 33, 3)) (by decide +kernel) rfl (by decide +kernel) (by decide +kernel) (by decide) rfl (by rfl) ?_
  refine Cr.iconst (by decide +kernel : zi 0 86 = some (.iconst 4, 1)) (by decide) ?_
  refine Cr.ildn (v := 3) (by decide +kernel : zi 0 87 = some (.iload_n 1, 1)) rfl ?_
  refine Cr.imul (c := 12) (by decide +kernel : zi 0 88 = some (.imul, 1)) (by decide +kernel) ?_
  refine Cr.ildn (v := 1) (by decide +kernel : zi 0 89 = some (.iload_n 2, 1)) rfl ?_
  refine Cr.iadd (c := 13) (by decide +kernel : zi 0 90 = some (.iadd, 1)) (by decide +kernel) ?_
  refine Cr.ildn (v := 3) (by decide +kernel : zi 0 91 = some (.iload_n 1, 1)) rfl ?_
  refine Cr.ildn (v := 1) (by decide +kernel : zi 0 92 = some (.iload_n 2, 1)) rfl ?_
  refine Cr.isub (c := 2) (by decide +kernel : zi 0 93 = some (.isub, 1)) (by decide +kernel) ?_
  refine Cr.callJ (v := 2) (y2 := 229) (na := 1) (as := [it 2]) (rest := [it 13, rf 19]) (by decide +kernel : zi 0 94 = some (.invokestatic 36, 3)) rfl (by decide +kernel) (by decide +kernel) rfl rfl (zok_S rfl (by decide) (by decide +kernel) rfl (Nat.le_of_ble_eq_true rfl)) (k229 (by omega) (by decide +kernel)) ?_
  refine Cr.iast (c := 18) (N := 16) (by decide +kernel : zi 0 97 = some (.iastore, 1)) (by decide +kernel) (by decide) (by decide) (by decide) ?_
  refine Cr.iinc (v := 1) (lv2 := [some (rf 11), some (it 3), some (it 2)]) (by decide +kernel : zi 0 98 = some (.iinc 2 1, 3)) (Nat.le_of_ble_eq_true rfl) rfl (by decide +kernel) ?_
  refine Cr.goto (q := 77) (by decide +kernel : zi 0 101 = some (.goto (-24), 3)) (by decide +kernel) ?_
  refine Cr.ildn (v := 2) (by decide +kernel : zi 0 77 = some (.iload_n 2, 1)) rfl ?_
  refine Cr.iconst (by decide +kernel : zi 0 78 = some (.iconst 4, 1)) (by decide) ?_
  refine Cr.if2f (q := 104) (by decide +kernel : zi 0 79 = some (.if_icmp .ge 25, 3)) (by decide +kernel) (show ¬ (4 : Int) ≤ 2 by decide) ?_
  refine Cr.aldn (c := 11) (by decide +kernel : zi 0 82 = some (.aload_n 0, 1)) rfl ⟨by decide, by decide⟩ ?_
  refine Cr.getR (c := 10) (c2 := 19) (ci := 0) (k := 10) 10 (by decide +kernel : zi 0 83 = some (.getfield 33, 3)) (by decide +kernel) rfl (by decide +kernel) (by decide +kernel) (by decide) rfl (by rfl) ?_
  refine Cr.iconst (by decide +kernel : zi 0 86 = some (.iconst 4, 1)) (by decide) ?_
  refine Cr.ildn (v := 3) (by decide +kernel : zi 0 87 = some (.iload_n 1, 1)) rfl ?_
  refine Cr.imul (c := 12) (by decide +kernel : zi 0 88 = some (.imul, 1)) (by decide +kernel) ?_
  refine Cr.ildn (v := 2) (by decide +kernel : zi 0 89 = some (.iload_n 2, 1)) rfl ?_
  refine Cr.iadd (c := 14) (by decide +kernel : zi 0 90 = some (.iadd, 1)) (by decide +kernel) ?_
  refine Cr.ildn (v := 3) (by decide +kernel : zi 0 91 = some (.iload_n 1, 1)) rfl ?_
  refine Cr.ildn (v := 2) (by decide +kernel : zi 0 92 = some (.iload_n 2, 1)) rfl ?_
  refine Cr.isub (c := 1) (by decide +kernel : zi 0 93 = some (.isub, 1)) (by decide +kernel) ?_
  refine Cr.callJ (v := 1) (y2 := 229) (na := 1) (as := [it 1]) (rest := [it 14, rf 19]) (by decide +kernel : zi 0 94 = some (.invokestatic 36, 3)) rfl (by decide +kernel) (by decide +kernel) rfl rfl (zok_S rfl (by decide) (by decide +kernel) rfl (Nat.le_of_ble_eq_true rfl)) (k229 (by omega) (by decide +kernel)) ?_
  refine Cr.iast (c := 18) (N := 16) (by decide +kernel : zi 0 97 = some (.iastore, 1)) (by decide +kernel) (by decide) (by decide) (by decide) ?_
  refine Cr.iinc (v := 2) (lv2 := [some (rf 11), some (it 3), some (it 3)]) (by decide +kernel : zi 0 98 = some (.iinc 2 1, 3)) (Nat.le_of_ble_eq_true rfl) rfl (by decide +kernel) ?_
  refine Cr.goto (q := 77) (by decide +kernel : zi 0 101 = some (.goto (-24), 3)) (by decide +kernel) ?_
  refine Cr.ildn (v := 3) (by decide +kernel : zi 0 77 = some (.iload_n 2, 1)) rfl ?_
  refine Cr.iconst (by decide +kernel : zi 0 78 = some (.iconst 4, 1)) (by decide) ?_
  refine Cr.if2f (q := 104) (by decide +kernel : zi 0 79 = some (.if_icmp .ge 25, 3)) (by decide +kernel) (show ¬ (4 : Int) ≤ 3 by decide) ?_
  refine Cr.aldn (c := 11) (by decide +kernel : zi 0 82 = some (.aload_n 0, 1)) rfl ⟨by decide, by decide⟩ ?_
  refine Cr.getR (c := 10) (c2 := 19) (ci := 0) (k := 10) 10 (by decide +kernel : zi 0 83 = some (.getfield 33, 3)) (by decide +kernel) rfl (by decide +kernel) (by decide +kernel) (by decide) rfl (by rfl) ?_
  refine Cr.iconst (by decide +kernel : zi 0 86 = some (.iconst 4, 1)) (by decide) ?_
  refine Cr.ildn (v := 3) (by decide +kernel : zi 0 87 = some (.iload_n 1, 1)) rfl ?_
  refine Cr.imul (c := 12) (by decide +kernel : zi 0 88 = some (.imul, 1)) (by decide +kernel) ?_
  refine Cr.ildn (v := 3) (by decide +kernel : zi 0 89 = some (.iload_n 2, 1)) rfl ?_
  refine Cr.iadd (c := 15) (by decide +kernel : zi 0 90 = some (.iadd, 1)) (by decide +kernel) ?_
  refine Cr.ildn (v := 3) (by decide +kernel : zi 0 91 = some (.iload_n 1, 1)) rfl ?_
  refine Cr.ildn (v := 3) (by decide +kernel : zi 0 92 = some (.iload_n 2, 1)) rfl ?_
  refine Cr.isub (c := 0) (by decide +kernel : zi 0 93 = some (.isub, 1)) (by decide +kernel) ?_
  refine Cr.callJ (v := 0) (y2 := 229) (na := 1) (as := [it 0]) (rest := [it 15, rf 19]) (by decide +kernel : zi 0 94 = some (.invokestatic 36, 3)) rfl (by decide +kernel) (by decide +kernel) rfl rfl (zok_S rfl (by decide) (by decide +kernel) rfl (Nat.le_of_ble_eq_true rfl)) (k229 (by omega) (by decide +kernel)) ?_
  refine Cr.iast (c := 18) (N := 16) (by decide +kernel : zi 0 97 = some (.iastore, 1)) (by decide +kernel) (by decide) (by decide) (by decide) ?_
  refine Cr.iinc (v := 3) (lv2 := [some (rf 11), some (it 3), some (it 4)]) (by decide +kernel : zi 0 98 = some (.iinc 2 1, 3)) (Nat.le_of_ble_eq_true rfl) rfl (by decide +kernel) ?_
  refine Cr.goto (q := 77) (by decide +kernel : zi 0 101 = some (.goto (-24), 3)) (by decide +kernel) ?_
  refine Cr.ildn (v := 4) (by decide +kernel : zi 0 77 = some (.iload_n 2, 1)) rfl ?_
  refine Cr.iconst (by decide +kernel : zi 0 78 = some (.iconst 4, 1)) (by decide) ?_
  refine Cr.if2t (q := 104) (by decide +kernel : zi 0 79 = some (.if_icmp .ge 25, 3)) (by decide +kernel) (show (4 : Int) ≤ 4 by decide) ?_
  refine Cr.iinc (v := 3) (lv2 := [some (rf 11), some (it 4), some (it 4)]) (by decide +kernel : zi 0 104 = some (.iinc 1 1, 3)) (Nat.le_of_ble_eq_true rfl) rfl (by decide +kernel) ?_
  refine Cr.goto (q := 70) (by decide +kernel : zi 0 107 = some (.goto (-37), 3)) (by decide +kernel) ?_
  refine Cr.ildn (v := 4) (by decide +kernel : zi 0 70 = some (.iload_n 1, 1)) rfl ?_
  refine Cr.iconst (by decide +kernel : zi 0 71 = some (.iconst 4, 1)) (by decide) ?_
  refine Cr.if2t (q := 110) (by decide +kernel : zi 0 72 = some (.if_icmp .ge 38, 3)) (by decide +kernel) (show (4 : Int) ≤ 4 by decide) ?_
  exact Cr.retV (by decide +kernel : zi 0 110 = some (.return_, 1)) (by decide +kernel) h
theorem k9_22 {s : Pl} {Q : Option AV → Nat → Pl → Prop} (hd : 1 ≤ d) (h : Q none 25 (pap s [(22, none), (21, some (0, 23)), (23, none), (21, some (1, 24)), (24, none), (21, some (2, 25))])) : Er xs L d 9 [rf 22] 22 s Q := by
  obtain ⟨e, rfl⟩ : ∃ e, d = e + 1 := ⟨d - 1, by omega⟩
  refine Er.of (by decide) [some (rf 22)] rfl ?_
  refine Cr.aldn (c := 22) (by decide +kernel : zi 9 0 = some (.aload_n 0, 1)) rfl ⟨by decide, by decide⟩ ?_
  refine Cr.oinit (c := 22) (by decide +kernel : zi 9 1 = some (.invokespecial 3, 3)) (by decide +kernel) (by decide +kernel) ⟨by decide, by decide⟩ (Nat.le_of_ble_eq_true rfl) ?_
  refine Cr.aldn (c := 22) (by decide +kernel : zi 9 4 = some (.aload_n 0, 1)) rfl ⟨by decide, by decide⟩ ?_
  refine Cr.sipush (by decide +kernel : zi 9 5 = some (.sipush 160, 3)) (by decide) ?_
  refine Cr.newarr (n2 := 23) (k := 160) (by decide +kernel : zi 9 8 = some (.newarray .int, 2)) (by decide +kernel) (by decide) (by decide) rfl ?_
  refine Cr.putR (c := 21) (w := 23) (ci := 1) (k := 0) 0 23 (by decide +kernel : zi 9 10 = some (.putfield 9, 3)) (by decide +kernel) (by decide +kernel) (by decide +kernel) (by decide) (by decide) (Or.inr ⟨by decide +kernel, by decide +kernel⟩) rfl rfl ?_
  refine Cr.aldn (c := 22) (by decide +kernel : zi 9 13 = some (.aload_n 0, 1)) rfl ⟨by decide, by decide⟩ ?_
  refine Cr.iconst (by decide +kernel : zi 9 14 = some (.iconst 3, 1)) (by decide) ?_
  refine Cr.newarr (n2 := 24) (k := 3) (by decide +kernel : zi 9 15 = some (.newarray .int, 2)) (by decide +kernel) (by decide) (by decide) rfl ?_
  refine Cr.putR (c := 21) (w := 24) (ci := 1) (k := 1) 1 24 (by decide +kernel : zi 9 17 = some (.putfield 15, 3)) (by decide +kernel) (by decide +kernel) (by decide +kernel) (by decide) (by decide) (Or.inr ⟨by decide +kernel, by decide +kernel⟩) rfl rfl ?_
  refine Cr.aldn (c := 22) (by decide +kernel : zi 9 20 = some (.aload_n 0, 1)) rfl ⟨by decide, by decide⟩ ?_
  refine Cr.bipush (by decide +kernel : zi 9 21 = some (.bipush 40, 2)) (by decide) ?_
  refine Cr.newarr (n2 := 25) (k := 40) (by decide +kernel : zi 9 23 = some (.newarray .int, 2)) (by decide +kernel) (by decide) (by decide) rfl ?_
  refine Cr.putR (c := 21) (w := 25) (ci := 1) (k := 2) 2 25 (by decide +kernel : zi 9 25 = some (.putfield 18, 3)) (by decide +kernel) (by decide +kernel) (by decide +kernel) (by decide) (by decide) (Or.inr ⟨by decide +kernel, by decide +kernel⟩) rfl rfl ?_
  exact Cr.retV (by decide +kernel : zi 9 28 = some (.return_, 1)) (by decide +kernel) h
theorem k9_26 {s : Pl} {Q : Option AV → Nat → Pl → Prop} (hd : 1 ≤ d) (h : Q none 29 (pap s [(26, none), (25, some (0, 27)), (27, none), (25, some (1, 28)), (28, none), (25, some (2, 29))])) : Er xs L d 9 [rf 26] 26 s Q := by
  obtain ⟨e, rfl⟩ : ∃ e, d = e + 1 := ⟨d - 1, by omega⟩
  refine Er.of (by decide) [some (rf 26)] rfl ?_
  refine Cr.aldn (c := 26) (by decide +kernel : zi 9 0 = some (.aload_n 0, 1)) rfl ⟨by decide, by decide⟩ ?_
  refine Cr.oinit (c := 26) (by decide +kernel : zi 9 1 = some (.invokespecial 3, 3)) (by decide +kernel) (by decide +kernel) ⟨by decide, by decide⟩ (Nat.le_of_ble_eq_true rfl) ?_
  refine Cr.aldn (c := 26) (by decide +kernel : zi 9 4 = some (.aload_n 0, 1)) rfl ⟨by decide, by decide⟩ ?_
  refine Cr.sipush (by decide +kernel : zi 9 5 = some (.sipush 160, 3)) (by decide) ?_
  refine Cr.newarr (n2 := 27) (k := 160) (by decide +kernel : zi 9 8 = some (.newarray .int, 2)) (by decide +kernel) (by decide) (by decide) rfl ?_
  refine Cr.putR (c := 25) (w := 27) (ci := 1) (k := 0) 0 27 (by decide +kernel : zi 9 10 = some (.putfield 9, 3)) (by decide +kernel) (by decide +kernel) (by decide +kernel) (by decide) (by decide) (Or.inr ⟨by decide +kernel, by decide +kernel⟩) rfl rfl ?_
  refine Cr.aldn (c := 26) (by decide +kernel : zi 9 13 = some (.aload_n 0, 1)) rfl ⟨by decide, by decide⟩ ?_
  refine Cr.iconst (by decide +kernel : zi 9 14 = some (.iconst 3, 1)) (by decide) ?_
  refine Cr.newarr (n2 := 28) (k := 3) (by decide +kernel : zi 9 15 = some (.newarray .int, 2)) (by decide +kernel) (by decide) (by decide) rfl ?_
  refine Cr.putR (c := 25) (w := 28) (ci := 1) (k := 1) 1 28 (by decide +kernel : zi 9 17 = some (.putfield 15, 3)) (by decide +kernel) (by decide +kernel) (by decide +kernel) (by decide) (by decide) (Or.inr ⟨by decide +kernel, by decide +kernel⟩) rfl rfl ?_
  refine Cr.aldn (c := 26) (by decide +kernel : zi 9 20 = some (.aload_n 0, 1)) rfl ⟨by decide, by decide⟩ ?_
  refine Cr.bipush (by decide +kernel : zi 9 21 = some (.bipush 40, 2)) (by decide) ?_
  refine Cr.newarr (n2 := 29) (k := 40) (by decide +kernel : zi 9 23 = some (.newarray .int, 2)) (by decide +kernel) (by decide) (by decide) rfl ?_
  refine Cr.putR (c := 25) (w := 29) (ci := 1) (k := 2) 2 29 (by decide +kernel : zi 9 25 = some (.putfield 18, 3)) (by decide +kernel) (by decide +kernel) (by decide +kernel) (by decide) (by decide) (Or.inr ⟨by decide +kernel, by decide +kernel⟩) rfl rfl ?_
  exact Cr.retV (by decide +kernel : zi 9 28 = some (.return_, 1)) (by decide +kernel) h
theorem k9_30 {s : Pl} {Q : Option AV → Nat → Pl → Prop} (hd : 1 ≤ d) (h : Q none 33 (pap s [(30, none), (29, some (0, 31)), (31, none), (29, some (1, 32)), (32, none), (29, some (2, 33))])) : Er xs L d 9 [rf 30] 30 s Q := by
  obtain ⟨e, rfl⟩ : ∃ e, d = e + 1 := ⟨d - 1, by omega⟩
  refine Er.of (by decide) [some (rf 30)] rfl ?_
  refine Cr.aldn (c := 30) (by decide +kernel : zi 9 0 = some (.aload_n 0, 1)) rfl ⟨by decide, by decide⟩ ?_
  refine Cr.oinit (c := 30) (by decide +kernel : zi 9 1 = some (.invokespecial 3, 3)) (by decide +kernel) (by decide +kernel) ⟨by decide, by decide⟩ (Nat.le_of_ble_eq_true rfl) ?_
  refine Cr.aldn (c := 30) (by decide +kernel : zi 9 4 = some (.aload_n 0, 1)) rfl ⟨by decide, by decide⟩ ?_
  refine Cr.sipush (by decide +kernel : zi 9 5 = some (.sipush 160, 3)) (by decide) ?_
  refine Cr.newarr (n2 := 31) (k := 160) (by decide +kernel : zi 9 8 = some (.newarray .int, 2)) (by decide +kernel) (by decide) (by decide) rfl ?_
  refine Cr.putR (c := 29) (w := 31) (ci := 1) (k := 0) 0 31 (by decide +kernel : zi 9 10 = some (.putfield 9, 3)) (by decide +kernel) (by decide +kernel) (by decide +kernel) (by decide) (by decide) (Or.inr ⟨by decide +kernel, by decide +kernel⟩) rfl rfl ?_
  refine Cr.aldn (c := 30) (by decide +kernel : zi 9 13 = some (.aload_n 0, 1)) rfl ⟨by decide, by decide⟩ ?_
  refine Cr.iconst (by decide +kernel : zi 9 14 = some (.iconst 3, 1)) (by decide) ?_
  refine Cr.newarr (n2 := 32) (k := 3) (by decide +kernel : zi 9 15 = some (.newarray .int, 2)) (by decide +kernel) (by decide) (by decide) rfl ?_
  refine Cr.putR (c := 29) (w := 32) (ci := 1) (k := 1) 1 32 (by decide +kernel : zi 9 17 = some (.putfield 15, 3)) (by decide +kernel) (by decide +kernel) (by decide +kernel) (by decide) (by decide) (Or.inr ⟨by decide +kernel, by decide +kernel⟩) rfl rfl ?_
  refine Cr.aldn (c := 30) (by decide +kernel : zi 9 20 = some (.aload_n 0, 1)) rfl ⟨by decide, by decide⟩ ?_
  refine Cr.bipush (by decide +kernel : zi 9 21 = some (.bipush 40, 2)) (by decide) ?_
  refine Cr.newarr (n2 := 33) (k := 40) (by decide +kernel : zi 9 23 = some (.newarray .int, 2)) (by decide +kernel) (by decide) (by decide) rfl ?_
  refine Cr.putR (c := 29) (w := 33) (ci := 1) (k := 2) 2 33 (by decide +kernel : zi 9 25 = some (.putfield 18, 3)) (by decide +kernel) (by decide +kernel) (by decide +kernel) (by decide) (by decide) (Or.inr ⟨by decide +kernel, by decide +kernel⟩) rfl rfl ?_
  exact Cr.retV (by decide +kernel : zi 9 28 = some (.return_, 1)) (by decide +kernel) h
theorem k9_34 {s : Pl} {Q : Option AV → Nat → Pl → Prop} (hd : 1 ≤ d) (h : Q none 37 (pap s [(34, none), (33, some (0, 35)), (35, none), (33, some (1, 36)), (36, none), (33, some (2, 37))])) : Er xs L d 9 [rf 34] 34 s Q := by
  obtain ⟨e, rfl⟩ : ∃ e, d = e + 1 := ⟨d - 1, by omega⟩
  refine Er.of (by decide) [some (rf 34)] rfl ?_
  refine Cr.aldn (c := 34) (by decide +kernel : zi 9 0 = some (.aload_n 0, 1)) rfl ⟨by decide, by decide⟩ ?_
  refine Cr.oinit (c := 34) (by decide +kernel : zi 9 1 = some (.invokespecial 3, 3)) (by decide +kernel) (by decide +kernel) ⟨by decide, by decide⟩ (Nat.le_of_ble_eq_true rfl) ?_
  refine Cr.aldn (c := 34) (by decide +kernel : zi 9 4 = some (.aload_n 0, 1)) rfl ⟨by decide, by decide⟩ ?_
  refine Cr.sipush (by decide +kernel : zi 9 5 = some (.sipush 160, 3)) (by decide) ?_
  refine Cr.newarr (n2 := 35) (k := 160) (by decide +kernel : zi 9 8 = some (.newarray .int, 2)) (by decide +kernel) (by decide) (by decide) rfl ?_
  refine Cr.putR (c := 33) (w := 35) (ci := 1) (k := 0) 0 35 (by decide +kernel : zi 9 10 = some (.putfield 9, 3)) (by decide +kernel) (by decide +kernel) (by decide +kernel) (by decide) (by decide) (Or.inr ⟨by decide +kernel, by decide +kernel⟩) rfl rfl ?_
  refine Cr.aldn (c := 34) (by decide +kernel : zi 9 13 = some (.aload_n 0, 1)) rfl ⟨by decide, by decide⟩ ?_
  refine Cr.iconst (by decide +kernel : zi 9 14 = some (.iconst 3, 1)) (by decide) ?_
  refine Cr.newarr (n2 := 36) (k := 3) (by decide +kernel : zi 9 15 = some (.newarray .int, 2)) (by decide +kernel) (by decide) (by decide) rfl ?_
  refine Cr.putR (c := 33) (w := 36) (ci := 1) (k := 1) 1 36 (by decide +kernel : zi 9 17 = some (.putfield 15, 3)) (by decide +kernel) (by decide +kernel) (by decide +kernel) (by decide) (by decide) (Or.inr ⟨by decide +kernel, by decide +kernel⟩) rfl rfl ?_
  refine Cr.aldn (c := 34) (by decide +kernel : zi 9 20 = some (.aload_n 0, 1)) rfl ⟨by decide, by decide⟩ ?_
  refine Cr.bipush (by decide +kernel : zi 9 21 = some (.bipush 40, 2)) (by decide) ?_
  refine Cr.newarr (n2 := 37) (k := 40) (by decide +kernel : zi 9 23 = some (.newarray .int, 2)) (by decide +kernel) (by decide) (by decide) rfl ?_
  refine Cr.putR (c := 33) (w := 37) (ci := 1) (k := 2) 2 37 (by decide +kernel : zi 9 25 = some (.putfield 18, 3)) (by decide +kernel) (by decide +kernel) (by decide +kernel) (by decide) (by decide) (Or.inr ⟨by decide +kernel, by decide +kernel⟩) rfl rfl ?_
  exact Cr.retV (by decide +kernel : zi 9 28 = some (.return_, 1)) (by decide +kernel) h
theorem k9_38 {s : Pl} {Q : Option AV → Nat → Pl → Prop} (hd : 1 ≤ d) (h : Q none 41 (pap s [(38, none), (37, some (0, 39)), (39, none), (37, some (1, 40)), (40, none), (37, some (2, 41))])) : Er xs L d 9 [rf 38] 38 s Q := by
  obtain ⟨e, rfl⟩ : ∃ e, d = e + 1 := ⟨d - 1, by omega⟩
  refine Er.of (by decide) [some (rf 38)] rfl ?_
  refine Cr.aldn (c := 38) (by decide +kernel : zi 9 0 = some (.aload_n 0, 1)) rfl ⟨by decide, by decide⟩ ?_
  refine Cr.oinit (c := 38) (by decide +kernel : zi 9 1 = some (.invokespecial 3, 3)) (by decide +kernel) (by decide +kernel) ⟨by decide, by decide⟩ (Nat.le_of_ble_eq_true rfl) ?_
  refine Cr.aldn (c := 38) (by decide +kernel : zi 9 4 = some (.aload_n 0, 1)) rfl ⟨by decide, by decide⟩ ?_
  refine Cr.sipush (by decide +kernel : zi 9 5 = some (.sipush 160, 3)) (by decide) ?_
  refine Cr.newarr (n2 := 39) (k := 160) (by decide +kernel : zi 9 8 = some (.newarray .int, 2)) (by decide +kernel) (by decide) (by decide) rfl ?_
  refine Cr.putR (c := 37) (w := 39) (ci := 1) (k := 0) 0 39 (by decide +kernel : zi 9 10 = some (.putfield 9, 3)) (by decide +kernel) (by decide +kernel) (by decide +kernel) (by decide) (by decide) (Or.inr ⟨by decide +kernel, by decide +kernel⟩) rfl rfl ?_
  refine Cr.aldn (c := 38) (by decide +kernel : zi 9 13 = some (.aload_n 0, 1)) rfl ⟨by decide, by decide⟩ ?_
  refine Cr.iconst (by decide +kernel : zi 9 14 = some (.iconst 3, 1)) (by decide) ?_
  refine Cr.newarr (n2 := 40) (k := 3) (by decide +kernel : zi 9 15 = some (.newarray .int, 2)) (by decide +kernel) (by decide) (by decide) rfl ?_
  refine Cr.putR (c := 37) (w := 40) (ci := 1) (k := 1) 1 40 (by decide +kernel : zi 9 17 = some (.putfield 15, 3)) (by decide +kernel) (by decide +kernel) (by decide +kernel) (by decide) (by decide) (Or.inr ⟨by decide +kernel, by decide +kernel⟩) rfl rfl ?_
  refine Cr.aldn (c := 38) (by decide +kernel : zi 9 20 = some (.aload_n 0, 1)) rfl ⟨by decide, by decide⟩ ?_
  refine Cr.bipush (by decide +kernel : zi 9 21 = some (.bipush 40, 2)) (by decide) ?_
  refine Cr.newarr (n2 := 41) (k := 40) (by decide +kernel : zi 9 23 = some (.newarray .int, 2)) (by decide +kernel) (by decide) (by decide) rfl ?_
  refine Cr.putR (c := 37) (w := 41) (ci := 1) (k := 2) 2 41 (by decide +kernel : zi 9 25 = some (.putfield 18, 3)) (by decide +kernel) (by decide +kernel) (by decide +kernel) (by decide) (by decide) (Or.inr ⟨by decide +kernel, by decide +kernel⟩) rfl rfl ?_
  exact Cr.retV (by decide +kernel : zi 9 28 = some (.return_, 1)) (by decide +kernel) h
theorem k9_42 {s : Pl} {Q : Option AV → Nat → Pl → Prop} (hd : 1 ≤ d) (h : Q none 45 (pap s [(42, none), (41, some (0, 43)), (43, none), (41, some (1, 44)), (44, none), (41, some (2, 45))])) : Er xs L d 9 [rf 42] 42 s Q := by
  obtain ⟨e, rfl⟩ : ∃ e, d = e + 1 := ⟨d - 1, by omega⟩
  refine Er.of (by decide) [some (rf 42)] rfl ?_
  refine Cr.aldn (c := 42) (by decide +kernel : zi 9 0 = some (.aload_n 0, 1)) rfl ⟨by decide, by decide⟩ ?_
  refine Cr.oinit (c := 42) (by decide +kernel : zi 9 1 = some (.invokespecial 3, 3)) (by decide +kernel) (by decide +kernel) ⟨by decide, by decide⟩ (Nat.le_of_ble_eq_true rfl) ?_
  refine Cr.aldn (c := 42) (by decide +kernel : zi 9 4 = some (.aload_n 0, 1)) rfl ⟨by decide, by decide⟩ ?_
  refine Cr.sipush (by decide +kernel : zi 9 5 = some (.sipush 160, 3)) (by decide) ?_
  refine Cr.newarr (n2 := 43) (k := 160) (by decide +kernel : zi 9 8 = some (.newarray .int, 2)) (by decide +kernel) (by decide) (by decide) rfl ?_
  refine Cr.putR (c := 41) (w := 43) (ci := 1) (k := 0) 0 43 (by decide +kernel : zi 9 10 = some (.putfield 9, 3)) (by decide +kernel) (by decide +kernel) (by decide +kernel) (by decide) (by decide) (Or.inr ⟨by decide +kernel, by decide +kernel⟩) rfl rfl ?_
  refine Cr.aldn (c := 42) (by decide +kernel : zi 9 13 = some (.aload_n 0, 1)) rfl ⟨by decide, by decide⟩ ?_
  refine Cr.iconst (by decide +kernel : zi 9 14 = some (.iconst 3, 1)) (by decide) ?_
  refine Cr.newarr (n2 := 44) (k := 3) (by decide +kernel : zi 9 15 = some (.newarray .int, 2)) (by decide +kernel) (by decide) (by decide) rfl ?_
  refine Cr.putR (c := 41) (w := 44) (ci := 1) (k := 1) 1 44 (by decide +kernel : zi 9 17 = some (.putfield 15, 3)) (by decide +kernel) (by decide +kernel) (by decide +kernel) (by decide) (by decide) (Or.inr ⟨by decide +kernel, by decide +kernel⟩) rfl rfl ?_
  refine Cr.aldn (c := 42) (by decide +kernel : zi 9 20 = some (.aload_n 0, 1)) rfl ⟨by decide, by decide⟩ ?_
  refine Cr.bipush (by decide +kernel : zi 9 21 = some (.bipush 40, 2)) (by decide) ?_
  refine Cr.newarr (n2 := 45) (k := 40) (by decide +kernel : zi 9 23 = some (.newarray .int, 2)) (by decide +kernel) (by decide) (by decide) rfl ?_
  refine Cr.putR (c := 41) (w := 45) (ci := 1) (k := 2) 2 45 (by decide +kernel : zi 9 25 = some (.putfield 18, 3)) (by decide +kernel) (by decide +kernel) (by decide +kernel) (by decide) (by decide) (Or.inr ⟨by decide +kernel, by decide +kernel⟩) rfl rfl ?_
  exact Cr.retV (by decide +kernel : zi 9 28 = some (.return_, 1)) (by decide +kernel) h
theorem k66_46 {s : Pl} {Q : Option AV → Nat → Pl → Prop} (hd : 1 ≤ d) (h : Q none 47 (pap s [(45, some (0, (-1))), (46, none), (45, some (2, 47))])) : Er xs L d 66 [rf 46] 46 s Q := by
  obtain ⟨e, rfl⟩ : ∃ e, d = e + 1 := ⟨d - 1, by omega⟩
  refine Er.of (by decide) [some (rf 46)] rfl ?_
  refine Cr.aldn (c := 46) (by decide +kernel : zi 66 0 = some (.aload_n 0, 1)) rfl ⟨by decide, by decide⟩ ?_
  refine Cr.oinit (c := 46) (by decide +kernel : zi 66 1 = some (.invokespecial 3, 3)) (by decide +kernel) (by decide +kernel) ⟨by decide, by decide⟩ (Nat.le_of_ble_eq_true rfl) ?_
  refine Cr.aldn (c := 46) (by decide +kernel : zi 66 4 = some (.aload_n 0, 1)) rfl ⟨by decide, by decide⟩ ?_
  refine Cr.iconst (by decide +kernel : zi 66 5 = some (.iconst (-1), 1)) (by decide) ?_
  refine Cr.putI (c := 45) (ci := 5) (k := 0) (t := 0) 0 (by decide +kernel : zi 66 6 = some (.putfield 9, 3)) (by decide +kernel) (by decide) (by decide +kernel) (by decide +kernel) (by decide) (Or.inl (by decide +kernel)) rfl ?_
  refine Cr.aldn (c := 46) (by decide +kernel : zi 66 9 = some (.aload_n 0, 1)) rfl ⟨by decide, by decide⟩ ?_
  refine Cr.bipush (by decide +kernel : zi 66 10 = some (.bipush 40, 2)) (by decide) ?_
  refine Cr.newarr (n2 := 47) (k := 40) (by decide +kernel : zi 66 12 = some (.newarray .int, 2)) (by decide +kernel) (by decide) (by decide) rfl ?_
  refine Cr.putR (c := 45) (w := 47) (ci := 5) (k := 2) 2 47 (by decide +kernel : zi 66 14 = some (.putfield 15, 3)) (by decide +kernel) (by decide +kernel) (by decide +kernel) (by decide) (by decide) (Or.inr ⟨by decide +kernel, by decide +kernel⟩) rfl rfl ?_
  exact Cr.retV (by decide +kernel : zi 66 17 = some (.return_, 1)) (by decide +kernel) h
theorem k66_48 {s : Pl} {Q : Option AV → Nat → Pl → Prop} (hd : 1 ≤ d) (h : Q none 49 (pap s [(47, some (0, (-1))), (48, none), (47, some (2, 49))])) : Er xs L d 66 [rf 48] 48 s Q := by
  obtain ⟨e, rfl⟩ : ∃ e, d = e + 1 := ⟨d - 1, by omega⟩
  refine Er.of (by decide) [some (rf 48)] rfl ?_
  refine Cr.aldn (c := 48) (by decide +kernel : zi 66 0 = some (.aload_n 0, 1)) rfl ⟨by decide, by decide⟩ ?_
  refine Cr.oinit (c := 48) (by decide +kernel : zi 66 1 = some (.invokespecial 3, 3)) (by decide +kernel) (by decide +kernel) ⟨by decide, by decide⟩ (Nat.le_of_ble_eq_true rfl) ?_
  refine Cr.aldn (c := 48) (by decide +kernel : zi 66 4 = some (.aload_n 0, 1)) rfl ⟨by decide, by decide⟩ ?_
  refine Cr.iconst (by decide +kernel : zi 66 5 = some (.iconst (-1), 1)) (by decide) ?_
  refine Cr.putI (c := 47) (ci := 5) (k := 0) (t := 0) 0 (by decide +kernel : zi 66 6 = some (.putfield 9, 3)) (by decide +kernel) (by decide) (by decide +kernel) (by decide +kernel) (by decide) (Or.inl (by decide +kernel)) rfl ?_
  refine Cr.aldn (c := 48) (by decide +kernel : zi 66 9 = some (.aload_n 0, 1)) rfl ⟨by decide, by decide⟩ ?_
  refine Cr.bipush (by decide +kernel : zi 66 10 = some (.bipush 40, 2)) (by decide) ?_
  refine Cr.newarr (n2 := 49) (k := 40) (by decide +kernel : zi 66 12 = some (.newarray .int, 2)) (by decide +kernel) (by decide) (by decide) rfl ?_
  refine Cr.putR (c := 47) (w := 49) (ci := 5) (k := 2) 2 49 (by decide +kernel : zi 66 14 = some (.putfield 15, 3)) (by decide +kernel) (by decide +kernel) (by decide +kernel) (by decide) (by decide) (Or.inr ⟨by decide +kernel, by decide +kernel⟩) rfl rfl ?_
  exact Cr.retV (by decide +kernel : zi 66 17 = some (.return_, 1)) (by decide +kernel) h
theorem k66_50 {s : Pl} {Q : Option AV → Nat → Pl → Prop} (hd : 1 ≤ d) (h : Q none 51 (pap s [(49, some (0, (-1))), (50, none), (49, some (2, 51))])) : Er xs L d 66 [rf 50] 50 s Q := by
  obtain ⟨e, rfl⟩ : ∃ e, d = e + 1 := ⟨d - 1, by omega⟩
  refine Er.of (by decide) [some (rf 50)] rfl ?_
  refine Cr.aldn (c := 50) (by decide +kernel : zi 66 0 = some (.aload_n 0, 1)) rfl ⟨by decide, by decide⟩ ?_
  refine Cr.oinit (c := 50) (by decide +kernel : zi 66 1 = some (.invokespecial 3, 3)) (by decide +kernel) (by decide +kernel) ⟨by decide, by decide⟩ (Nat.le_of_ble_eq_true rfl) ?_
  refine Cr.aldn (c := 50) (by decide +kernel : zi 66 4 = some (.aload_n 0, 1)) rfl ⟨by decide, by decide⟩ ?_
  refine Cr.iconst (by decide +kernel : zi 66 5 = some (.iconst (-1), 1)) (by decide) ?_
  refine Cr.putI (c := 49) (ci := 5) (k := 0) (t := 0) 0 (by decide +kernel : zi 66 6 = some (.putfield 9, 3)) (by decide +kernel) (by decide) (by decide +kernel) (by decide +kernel) (by decide) (Or.inl (by decide +kernel)) rfl ?_
  refine Cr.aldn (c := 50) (by decide +kernel : zi 66 9 = some (.aload_n 0, 1)) rfl ⟨by decide, by decide⟩ ?_
  refine Cr.bipush (by decide +kernel : zi 66 10 = some (.bipush 40, 2)) (by decide) ?_
  refine Cr.newarr (n2 := 51) (k := 40) (by decide +kernel : zi 66 12 = some (.newarray .int, 2)) (by decide +kernel) (by decide) (by decide) rfl ?_
  refine Cr.putR (c := 49) (w := 51) (ci := 5) (k := 2) 2 51 (by decide +kernel : zi 66 14 = some (.putfield 15, 3)) (by decide +kernel) (by decide +kernel) (by decide +kernel) (by decide) (by decide) (Or.inr ⟨by decide +kernel, by decide +kernel⟩) rfl rfl ?_
  exact Cr.retV (by decide +kernel : zi 66 17 = some (.return_, 1)) (by decide +kernel) h
theorem k66_52 {s : Pl} {Q : Option AV → Nat → Pl → Prop} (hd : 1 ≤ d) (h : Q none 53 (pap s [(51, some (0, (-1))), (52, none), (51, some (2, 53))])) : Er xs L d 66 [rf 52] 52 s Q := by
  obtain ⟨e, rfl⟩ : ∃ e, d = e + 1 := ⟨d - 1, by omega⟩
  refine Er.of (by decide) [some (rf 52)] rfl ?_
  refine Cr.aldn (c := 52) (by decide +kernel : zi 66 0 = some (.aload_n 0, 1)) rfl ⟨by decide, by decide⟩ ?_
  refine Cr.oinit (c := 52) (by decide +kernel : zi 66 1 = some (.invokespecial 3, 3)) (by decide +kernel) (by decide +kernel) ⟨by decide, by decide⟩ (Nat.le_of_ble_eq_true rfl) ?_
  refine Cr.aldn (c := 52) (by decide +kernel : zi 66 4 = some (.aload_n 0, 1)) rfl ⟨by decide, by decide⟩ ?_
  refine Cr.iconst (by decide +kernel : zi 66 5 = some (.iconst (-1), 1)) (by decide) ?_
  refine Cr.putI (c := 51) (ci := 5) (k := 0) (t := 0) 0 (by decide +kernel : zi 66 6 = some (.putfield 9, 3)) (by decide +kernel) (by decide) (by decide +kernel) (by decide +kernel) (by decide) (Or.inl (by decide +kernel)) rfl ?_
  refine Cr.aldn (c := 52) (by decide +kernel : zi 66 9 = some (.aload_n 0, 1)) rfl ⟨by decide, by decide⟩ ?_
  refine Cr.bipush (by decide +kernel : zi 66 10 = some (.bipush 40, 2)) (by decide) ?_
  refine Cr.newarr (n2 := 53) (k := 40) (by decide +kernel : zi 66 12 = some (.newarray .int, 2)) (by decide +kernel) (by decide) (by decide) rfl ?_
  refine Cr.putR (c := 51) (w := 53) (ci := 5) (k := 2) 2 53 (by decide +kernel : zi 66 14 = some (.putfield 15, 3)) (by decide +kernel) (by decide +kernel) (by decide +kernel) (by decide) (by decide) (Or.inr ⟨by decide +kernel, by decide +kernel⟩) rfl rfl ?_
  exact Cr.retV (by decide +kernel : zi 66 17 = some (.return_, 1)) (by decide +kernel) h
theorem k16_54 {s : Pl} {Q : Option AV → Nat → Pl → Prop} (hd : 1 ≤ d) (h : Q none 57 (pap s [(54, none), (53, some (0, 55)), (55, none), (53, some (2, 56)), (56, none), (53, some (3, 57)), (53, some (8, 22))])) : Er xs L d 16 [rf 54, rf 22] 54 s Q := by
  obtain ⟨e, rfl⟩ : ∃ e, d = e + 1 := ⟨d - 1, by omega⟩
  refine Er.of (by decide) [some (rf 54), some (rf 22)] rfl ?_
  refine Cr.aldn (c := 54) (by decide +kernel : zi 16 0 = some (.aload_n 0, 1)) rfl ⟨by decide, by decide⟩ ?_
  refine Cr.oinit (c := 54) (by decide +kernel : zi 16 1 = some (.invokespecial 3, 3)) (by decide +kernel) (by decide +kernel) ⟨by decide, by decide⟩ (Nat.le_of_ble_eq_true rfl) ?_
  refine Cr.aldn (c := 54) (by decide +kernel : zi 16 4 = some (.aload_n 0, 1)) rfl ⟨by decide, by decide⟩ ?_
  refine Cr.sipush (by decide +kernel : zi 16 5 = some (.sipush 160, 3)) (by decide) ?_
  refine Cr.newarr (n2 := 55) (k := 160) (by decide +kernel : zi 16 8 = some (.newarray .int, 2)) (by decide +kernel) (by decide) (by decide) rfl ?_
  refine Cr.putR (c := 53) (w := 55) (ci := 2) (k := 0) 0 55 (by decide +kernel : zi 16 10 = some (.putfield 9, 3)) (by decide +kernel) (by decide +kernel) (by decide +kernel) (by decide) (by decide) (Or.inr ⟨by decide +kernel, by decide +kernel⟩) rfl rfl ?_
  refine Cr.aldn (c := 54) (by decide +kernel : zi 16 13 = some (.aload_n 0, 1)) rfl ⟨by decide, by decide⟩ ?_
  refine Cr.sipush (by decide +kernel : zi 16 14 = some (.sipush 161, 3)) (by decide) ?_
  refine Cr.newarr (n2 := 56) (k := 161) (by decide +kernel : zi 16 17 = some (.newarray .int, 2)) (by decide +kernel) (by decide) (by decide) rfl ?_
  refine Cr.putR (c := 53) (w := 56) (ci := 2) (k := 2) 2 56 (by decide +kernel : zi 16 19 = some (.putfield 15, 3)) (by decide +kernel) (by decide +kernel) (by decide +kernel) (by decide) (by decide) (Or.inr ⟨by decide +kernel, by decide +kernel⟩) rfl rfl ?_
  refine Cr.aldn (c := 54) (by decide +kernel : zi 16 22 = some (.aload_n 0, 1)) rfl ⟨by decide, by decide⟩ ?_
  refine Cr.sipush (by decide +kernel : zi 16 23 = some (.sipush 161, 3)) (by decide) ?_
  refine Cr.newarr (n2 := 57) (k := 161) (by decide +kernel : zi 16 26 = some (.newarray .int, 2)) (by decide +kernel) (by decide) (by decide) rfl ?_
  refine Cr.putR (c := 53) (w := 57) (ci := 2) (k := 3) 3 57 (by decide +kernel : zi 16 28 = some (.putfield 18, 3)) (by decide +kernel) (by decide +kernel) (by decide +kernel) (by decide) (by decide) (Or.inr ⟨by decide +kernel, by decide +kernel⟩) rfl rfl ?_
  refine Cr.aldn (c := 54) (by decide +kernel : zi 16 31 = some (.aload_n 0, 1)) rfl ⟨by decide, by decide⟩ ?_
  refine Cr.aldn (c := 22) (by decide +kernel : zi 16 32 = some (.aload_n 1, 1)) rfl ⟨by decide, by decide⟩ ?_
  refine Cr.putR (c := 53) (w := 22) (ci := 2) (k := 8) 8 22 (by decide +kernel : zi 16 33 = some (.putfield 21, 3)) (by decide +kernel) (by decide +kernel) (by decide +kernel) (by decide) (by decide) (Or.inl (by decide +kernel)) rfl rfl ?_
  exact Cr.retV (by decide +kernel : zi 16 36 = some (.return_, 1)) (by decide +kernel) h
theorem k33_58 {s : Pl} {Q : Option AV → Nat → Pl → Prop} (hd : 1 ≤ d) (h : Q none 64 (pap s [(58, none), (57, some (2, 59)), (59, none), (57, some (3, 60)), (60, none), (57, some (4, 61)), (61, none), (57, some (5, 62)), (62, none), (57, some (16, 63)), (63, none), (57, some (17, 64)), (57, some (0, 2)), (57, some (1, 22))])) : Er xs L d 33 [rf 58, rf 2, rf 22] 58 s Q := by
  obtain ⟨e, rfl⟩ : ∃ e, d = e + 1 := ⟨d - 1, by omega⟩
  refine Er.of (by decide) [some (rf 58), some (rf 2), some (rf 22)] rfl ?_
  refine Cr.aldn (c := 58) (by decide +kernel : zi 33 0 = some (.aload_n 0, 1)) rfl ⟨by decide, by decide⟩ ?_
  refine Cr.oinit (c := 58) (by decide +kernel : zi 33 1 = some (.invokespecial 3, 3)) (by decide +kernel) (by decide +kernel) ⟨by decide, by decide⟩ (Nat.le_of_ble_eq_true rfl) ?_
  refine Cr.aldn (c := 58) (by decide +kernel : zi 33 4 = some (.aload_n 0, 1)) rfl ⟨by decide, by decide⟩ ?_
  refine Cr.bipush (by decide +kernel : zi 33 5 = some (.bipush 6, 2)) (by decide) ?_
  refine Cr.newarr (n2 := 59) (k := 6) (by decide +kernel : zi 33 7 = some (.newarray .int, 2)) (by decide +kernel) (by decide) (by decide) rfl ?_
  refine Cr.putR (c := 57) (w := 59) (ci := 3) (k := 2) 2 59 (by decide +kernel : zi 33 9 = some (.putfield 9, 3)) (by decide +kernel) (by decide +kernel) (by decide +kernel) (by decide) (by decide) (Or.inr ⟨by decide +kernel, by decide +kernel⟩) rfl rfl ?_
  refine Cr.aldn (c := 58) (by decide +kernel : zi 33 12 = some (.aload_n 0, 1)) rfl ⟨by decide, by decide⟩ ?_
  refine Cr.bipush (by decide +kernel : zi 33 13 = some (.bipush 16, 2)) (by decide) ?_
  refine Cr.newarr (n2 := 60) (k := 16) (by decide +kernel : zi 33 15 = some (.newarray .int, 2)) (by decide +kernel) (by decide) (by decide) rfl ?_
  refine Cr.putR (c := 57) (w := 60) (ci := 3) (k := 3) 3 60 (by decide +kernel : zi 33 17 = some (.putfield 15, 3)) (by decide +kernel) (by decide +kernel) (by decide +kernel) (by decide) (by decide) (Or.inr ⟨by decide +kernel, by decide +kernel⟩) rfl rfl ?_
  refine Cr.aldn (c := 58) (by decide +kernel : zi 33 20 = some (.aload_n 0, 1)) rfl ⟨by decide, by decide⟩ ?_
  refine Cr.bipush (by decide +kernel : zi 33 21 = some (.bipush 16, 2)) (by decide) ?_
  refine Cr.newarr (n2 := 61) (k := 16) (by decide +kernel : zi 33 23 = some (.newarray .int, 2)) (by decide +kernel) (by decide) (by decide) rfl ?_
  refine Cr.putR (c := 57) (w := 61) (ci := 3) (k := 4) 4 61 (by decide +kernel : zi 33 25 = some (.putfield 18, 3)) (by decide +kernel) (by decide +kernel) (by decide +kernel) (by decide) (by decide) (Or.inr ⟨by decide +kernel, by decide +kernel⟩) rfl rfl ?_
  refine Cr.aldn (c := 58) (by decide +kernel : zi 33 28 = some (.aload_n 0, 1)) rfl ⟨by decide, by decide⟩ ?_
  refine Cr.bipush (by decide +kernel : zi 33 29 = some (.bipush 36, 2)) (by decide) ?_
  refine Cr.newarr (n2 := 62) (k := 36) (by decide +kernel : zi 33 31 = some (.newarray .int, 2)) (by decide +kernel) (by decide) (by decide) rfl ?_
  refine Cr.putR (c := 57) (w := 62) (ci := 3) (k := 5) 5 62 (by decide +kernel : zi 33 33 = some (.putfield 21, 3)) (by decide +kernel) (by decide +kernel) (by decide +kernel) (by decide) (by decide) (Or.inr ⟨by decide +kernel, by decide +kernel⟩) rfl rfl ?_
  refine Cr.aldn (c := 58) (by decide +kernel : zi 33 36 = some (.aload_n 0, 1)) rfl ⟨by decide, by decide⟩ ?_
  refine Cr.bipush (by decide +kernel : zi 33 37 = some (.bipush 36, 2)) (by decide) ?_
  refine Cr.newarr (n2 := 63) (k := 36) (by decide +kernel : zi 33 39 = some (.newarray .int, 2)) (by decide +kernel) (by decide) (by decide) rfl ?_
  refine Cr.putR (c := 57) (w := 63) (ci := 3) (k := 16) 16 63 (by decide +kernel : zi 33 41 = some (.putfield 24, 3)) (by decide +kernel) (by decide +kernel) (by decide +kernel) (by decide) (by decide) (Or.inr ⟨by decide +kernel, by decide +kernel⟩) rfl rfl ?_
  refine Cr.aldn (c := 58) (by decide +kernel : zi 33 44 = some (.aload_n 0, 1)) rfl ⟨by decide, by decide⟩ ?_
  refine Cr.bipush (by decide +kernel : zi 33 45 = some (.bipush 36, 2)) (by decide) ?_
  refine Cr.newarr (n2 := 64) (k := 36) (by decide +kernel : zi 33 47 = some (.newarray .int, 2)) (by decide +kernel) (by decide) (by decide) rfl ?_
  refine Cr.putR (c := 57) (w := 64) (ci := 3) (k := 17) 17 64 (by decide +kernel : zi 33 49 = some (.putfield 27, 3)) (by decide +kernel) (by decide +kernel) (by decide +kernel) (by decide) (by decide) (Or.inr ⟨by decide +kernel, by decide +kernel⟩) rfl rfl ?_
  refine Cr.aldn (c := 58) (by decide +kernel : zi 33 52 = some (.aload_n 0, 1)) rfl ⟨by decide, by decide⟩ ?_
  refine Cr.aldn (c := 2) (by decide +kernel : zi 33 53 = some (.aload_n 1, 1)) rfl ⟨by decide, by decide⟩ ?_
  refine Cr.putR (c := 57) (w := 2) (ci := 3) (k := 0) 0 2 (by decide +kernel : zi 33 54 = some (.putfield 30, 3)) (by decide +kernel) (by decide +kernel) (by decide +kernel) (by decide) (by decide) (Or.inr ⟨by decide +kernel, by decide +kernel⟩) rfl rfl ?_
  refine Cr.aldn (c := 58) (by decide +kernel : zi 33 57 = some (.aload_n 0, 1)) rfl ⟨by decide, by decide⟩ ?_
  refine Cr.aldn (c := 22) (by decide +kernel : zi 33 58 = some (.aload_n 2, 1)) rfl ⟨by decide, by decide⟩ ?_
  refine Cr.putR (c := 57) (w := 22) (ci := 3) (k := 1) 1 22 (by decide +kernel : zi 33 59 = some (.putfield 34, 3)) (by decide +kernel) (by decide +kernel) (by decide +kernel) (by decide) (by decide) (Or.inl (by decide +kernel)) rfl rfl ?_
  exact Cr.retV (by decide +kernel : zi 33 62 = some (.return_, 1)) (by decide +kernel) h
theorem k53_65 {s : Pl} {Q : Option AV → Nat → Pl → Prop} (hd : 1 ≤ d) (h : Q none 68 (pap s [(65, none), (64, some (1, 66)), (66, none), (64, some (2, 67)), (67, none), (64, some (3, 68)), (64, some (0, 58))])) : Er xs L d 53 [rf 65, rf 58] 65 s Q := by
  obtain ⟨e, rfl⟩ : ∃ e, d = e + 1 := ⟨d - 1, by omega⟩
  refine Er.of (by decide) [some (rf 65), some (rf 58)] rfl ?_
  refine Cr.aldn (c := 65) (by decide +kernel : zi 53 0 = some (.aload_n 0, 1)) rfl ⟨by decide, by decide⟩ ?_
  refine Cr.oinit (c := 65) (by decide +kernel : zi 53 1 = some (.invokespecial 3, 3)) (by decide +kernel) (by decide +kernel) ⟨by decide, by decide⟩ (Nat.le_of_ble_eq_true rfl) ?_
  refine Cr.aldn (c := 65) (by decide +kernel : zi 53 4 = some (.aload_n 0, 1)) rfl ⟨by decide, by decide⟩ ?_
  refine Cr.sipush (by decide +kernel : zi 53 5 = some (.sipush 1954, 3)) (by decide) ?_
  refine Cr.newarr (n2 := 66) (k := 1954) (by decide +kernel : zi 53 8 = some (.newarray .int, 2)) (by decide +kernel) (by decide) (by decide) rfl ?_
  refine Cr.putR (c := 64) (w := 66) (ci := 4) (k := 1) 1 66 (by decide +kernel : zi 53 10 = some (.putfield 11, 3)) (by decide +kernel) (by decide +kernel) (by decide +kernel) (by decide) (by decide) (Or.inr ⟨by decide +kernel, by decide +kernel⟩) rfl rfl ?_
  refine Cr.aldn (c := 65) (by decide +kernel : zi 53 13 = some (.aload_n 0, 1)) rfl ⟨by decide, by decide⟩ ?_
  refine Cr.sipush (by decide +kernel : zi 53 14 = some (.sipush 1440, 3)) (by decide) ?_
  refine Cr.newarr (n2 := 67) (k := 1440) (by decide +kernel : zi 53 17 = some (.newarray .int, 2)) (by decide +kernel) (by decide) (by decide) rfl ?_
  refine Cr.putR (c := 64) (w := 67) (ci := 4) (k := 2) 2 67 (by decide +kernel : zi 53 19 = some (.putfield 15, 3)) (by decide +kernel) (by decide +kernel) (by decide +kernel) (by decide) (by decide) (Or.inr ⟨by decide +kernel, by decide +kernel⟩) rfl rfl ?_
  refine Cr.aldn (c := 65) (by decide +kernel : zi 53 22 = some (.aload_n 0, 1)) rfl ⟨by decide, by decide⟩ ?_
  refine Cr.sipush (by decide +kernel : zi 53 23 = some (.sipush 402, 3)) (by decide) ?_
  refine Cr.newarr (n2 := 68) (k := 402) (by decide +kernel : zi 53 26 = some (.newarray .int, 2)) (by decide +kernel) (by decide) (by decide) rfl ?_
  refine Cr.putR (c := 64) (w := 68) (ci := 4) (k := 3) 3 68 (by decide +kernel : zi 53 28 = some (.putfield 18, 3)) (by decide +kernel) (by decide +kernel) (by decide +kernel) (by decide) (by decide) (Or.inr ⟨by decide +kernel, by decide +kernel⟩) rfl rfl ?_
  refine Cr.aldn (c := 65) (by decide +kernel : zi 53 31 = some (.aload_n 0, 1)) rfl ⟨by decide, by decide⟩ ?_
  refine Cr.aldn (c := 58) (by decide +kernel : zi 53 32 = some (.aload_n 1, 1)) rfl ⟨by decide, by decide⟩ ?_
  refine Cr.putR (c := 64) (w := 58) (ci := 4) (k := 0) 0 58 (by decide +kernel : zi 53 33 = some (.putfield 21, 3)) (by decide +kernel) (by decide +kernel) (by decide +kernel) (by decide) (by decide) (Or.inr ⟨by decide +kernel, by decide +kernel⟩) rfl rfl ?_
  exact Cr.retV (by decide +kernel : zi 53 36 = some (.return_, 1)) (by decide +kernel) h
theorem k72_69 {s : Pl} {Q : Option AV → Nat → Pl → Prop} (hd : 1 ≤ d) (h : Q none 72 (pap s [(69, none), (68, some (1, 70)), (70, none), (68, some (2, 71)), (71, none), (68, some (3, 72)), (68, some (0, 58))])) : Er xs L d 72 [rf 69, rf 58] 69 s Q := by
  obtain ⟨e, rfl⟩ : ∃ e, d = e + 1 := ⟨d - 1, by omega⟩
  refine Er.of (by decide) [some (rf 69), some (rf 58)] rfl ?_
  refine Cr.aldn (c := 69) (by decide +kernel : zi 72 0 = some (.aload_n 0, 1)) rfl ⟨by decide, by decide⟩ ?_
  refine Cr.oinit (c := 69) (by decide +kernel : zi 72 1 = some (.invokespecial 3, 3)) (by decide +kernel) (by decide +kernel) ⟨by decide, by decide⟩ (Nat.le_of_ble_eq_true rfl) ?_
  refine Cr.aldn (c := 69) (by decide +kernel : zi 72 4 = some (.aload_n 0, 1)) rfl ⟨by decide, by decide⟩ ?_
  refine Cr.bipush (by decide +kernel : zi 72 5 = some (.bipush 16, 2)) (by decide) ?_
  refine Cr.newarr (n2 := 70) (k := 16) (by decide +kernel : zi 72 7 = some (.newarray .int, 2)) (by decide +kernel) (by decide) (by decide) rfl ?_
  refine Cr.putR (c := 68) (w := 70) (ci := 6) (k := 1) 1 70 (by decide +kernel : zi 72 9 = some (.putfield 9, 3)) (by decide +kernel) (by decide +kernel) (by decide +kernel) (by decide) (by decide) (Or.inr ⟨by decide +kernel, by decide +kernel⟩) rfl rfl ?_
  refine Cr.aldn (c := 69) (by decide +kernel : zi 72 12 = some (.aload_n 0, 1)) rfl ⟨by decide, by decide⟩ ?_
  refine Cr.bipush (by decide +kernel : zi 72 13 = some (.bipush 16, 2)) (by decide) ?_
  refine Cr.newarr (n2 := 71) (k := 16) (by decide +kernel : zi 72 15 = some (.newarray .int, 2)) (by decide +kernel) (by decide) (by decide) rfl ?_
  refine Cr.putR (c := 68) (w := 71) (ci := 6) (k := 2) 2 71 (by decide +kernel : zi 72 17 = some (.putfield 15, 3)) (by decide +kernel) (by decide +kernel) (by decide +kernel) (by decide) (by decide) (Or.inr ⟨by decide +kernel, by decide +kernel⟩) rfl rfl ?_
  refine Cr.aldn (c := 69) (by decide +kernel : zi 72 20 = some (.aload_n 0, 1)) rfl ⟨by decide, by decide⟩ ?_
  refine Cr.bipush (by decide +kernel : zi 72 21 = some (.bipush 16, 2)) (by decide) ?_
  refine Cr.newarr (n2 := 72) (k := 16) (by decide +kernel : zi 72 23 = some (.newarray .int, 2)) (by decide +kernel) (by decide) (by decide) rfl ?_
  refine Cr.putR (c := 68) (w := 72) (ci := 6) (k := 3) 3 72 (by decide +kernel : zi 72 25 = some (.putfield 18, 3)) (by decide +kernel) (by decide +kernel) (by decide +kernel) (by decide) (by decide) (Or.inr ⟨by decide +kernel, by decide +kernel⟩) rfl rfl ?_
  refine Cr.aldn (c := 69) (by decide +kernel : zi 72 28 = some (.aload_n 0, 1)) rfl ⟨by decide, by decide⟩ ?_
  refine Cr.aldn (c := 58) (by decide +kernel : zi 72 29 = some (.aload_n 1, 1)) rfl ⟨by decide, by decide⟩ ?_
  refine Cr.putR (c := 68) (w := 58) (ci := 6) (k := 0) 0 58 (by decide +kernel : zi 72 30 = some (.putfield 21, 3)) (by decide +kernel) (by decide +kernel) (by decide +kernel) (by decide) (by decide) (Or.inr ⟨by decide +kernel, by decide +kernel⟩) rfl rfl ?_
  exact Cr.retV (by decide +kernel : zi 72 33 = some (.return_, 1)) (by decide +kernel) h
end INI
