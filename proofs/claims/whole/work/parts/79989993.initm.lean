/-! the reference's constructor -/
section INI2
variable {xs : Nat → Int} {L d : Nat}
def pl131 : List (Nat × Option (Int × Int)) := [(73, none), (73, some (0, 0)), (73, some (1, 1)), (73, some (2, 2)), (73, some (3, 3)), (73, some (4, 1)), (73, some (5, 0)), (73, some (6, 1)), (73, some (7, 2)), (73, some (8, 2)), (73, some (9, 1)), (73, some (10, 0)), (73, some (11, 1)), (73, some (12, 3)), (73, some (13, 2)), (73, some (14, 1)), (73, some (15, 0)), (72, some (1, 74)), (74, none), (72, some (4, 75)), (75, none), (72, some (5, 76)), (76, none), (72, some (6, 77)), (77, none), (72, some (7, 78)), (78, none), (72, some (8, 79)), (79, none), (72, some (9, 80)), (80, none), (72, some (10, 81)), (81, none), (72, some (11, 82)), (72, some (13, 1)), (82, none), (72, some (15, 83)), (83, none), (72, some (16, 84)), (84, none), (72, some (17, 85)), (85, none), (72, some (25, 86)), (86, none), (72, some (26, 87)), (87, none), (87, some (0, 111)), (87, some (1, 102)), (87, some (2, 102)), (87, some (3, 32)), (87, some (4, 111)), (87, some (5, 110)), (87, some (6, 32)), (87, some (7, 97)), (87, some (8, 116)), (87, some (9, 32)), (87, some (10, 98)), (87, some (11, 97)), (87, some (12, 115)), (87, some (13, 101)), (87, some (14, 32)), (87, some (15, 104)), (87, some (16, 111)), (87, some (17, 117)), (87, some (18, 114)), (87, some (19, 32)), (87, some (20, 98)), (87, some (21, 121)), (87, some (22, 32)), (87, some (23, 109)), (87, some (24, 97)), (87, some (25, 121)), (87, some (26, 32)), (87, some (27, 114)), (87, some (28, 111)), (87, some (29, 119)), (87, some (30, 32)), (87, some (31, 103)), (87, some (32, 97)), (87, some (33, 105)), (87, some (34, 110)), (87, some (35, 32)), (87, some (36, 111)), (87, some (37, 114)), (87, some (38, 32)), (87, some (39, 97)), (87, some (40, 110)), (87, some (41, 100)), (87, some (42, 32)), (87, some (43, 110)), (87, some (44, 111)), (87, some (45, 116)), (87, some (46, 32)), (72, some (27, 88)), (88, none), (88, some (0, 0)), (88, some (1, 1)), (88, some (2, 2)), (88, some (3, 3)), (88, some (4, 4)), (88, some (5, 5)), (88, some (6, 10)), (88, some (7, 11)), (88, some (8, 12)), (88, some (9, 13)), (88, some (10, 14)), (88, some (11, 15)), (72, some (28, 89)), (89, none), (72, some (30, 90)), (90, none), (72, some (31, 91)), (91, none), (72, some (32, 92)), (92, none), (72, some (33, 93)), (93, none), (72, some (38, 94)), (94, none), (72, some (39, 95)), (95, none), (72, some (40, 96)), (96, none), (72, some (41, 97)), (97, none), (72, some (42, 98)), (98, none), (72, some (43, 99)), (99, none), (72, some (49, 100)), (100, none), (72, some (50, 101)), (101, none), (72, some (51, 102)), (102, none), (102, some (0, (-1))), (102, some (1, (-1))), (102, some (2, (-1))), (102, some (3, (-1))), (72, some (52, 103)), (103, none), (72, some (53, 104)), (104, none), (72, some (54, 105)), (105, none), (72, some (55, 106))]
theorem k131_73 {s : Pl} {Q : Option AV → Nat → Pl → Prop} (hd : 1 ≤ d) (h : Q none 106 (pap s pl131)) : Er xs L d 131 [rf 73] 73 s Q := by
  obtain ⟨e, rfl⟩ : ∃ e, d = e + 1 := ⟨d - 1, by omega⟩
  refine Er.of (by decide) [some (rf 73)] rfl ?_
  refine Cr.aldn (c := 73) (by decide +kernel : zi 131 0 = some (.aload_n 0, 1)) rfl ⟨by decide, by decide⟩ ?_
  refine Cr.oinit (c := 73) (by decide +kernel : zi 131 1 = some (.invokespecial 1, 3)) (by decide +kernel) (by decide +kernel) ⟨by decide, by decide⟩ (Nat.le_of_ble_eq_true rfl) ?_
  refine Cr.aldn (c := 73) (by decide +kernel : zi 131 4 = some (.aload_n 0, 1)) rfl ⟨by decide, by decide⟩ ?_
  refine Cr.bipush (by decide +kernel : zi 131 5 = some (.bipush 16, 2)) (by decide) ?_
  refine Cr.newarr (n2 := 74) (k := 16) (by decide +kernel : zi 131 7 = some (.newarray .int, 2)) (by decide +kernel) (by decide) (by decide) rfl ?_
  refine Cr.dup (by decide +kernel : zi 131 9 = some (.dup, 1)) rfl ?_
  refine Cr.iconst (by decide +kernel : zi 131 10 = some (.iconst 0, 1)) (by decide) ?_
  refine Cr.iconst (by decide +kernel : zi 131 11 = some (.iconst 0, 1)) (by decide) ?_
  refine Cr.iast (c := 73) (N := 16) (by decide +kernel : zi 131 12 = some (.iastore, 1)) (by decide +kernel) (by decide) (by decide) (by decide) ?_
  refine Cr.dup (by decide +kernel : zi 131 13 = some (.dup, 1)) rfl ?_
  refine Cr.iconst (by decide +kernel : zi 131 14 = some (.iconst 1, 1)) (by decide) ?_
  refine Cr.iconst (by decide +kernel : zi 131 15 = some (.iconst 1, 1)) (by decide) ?_
  refine Cr.iast (c := 73) (N := 16) (by decide +kernel : zi 131 16 = some (.iastore, 1)) (by decide +kernel) (by decide) (by decide) (by decide) ?_
  refine Cr.dup (by decide +kernel : zi 131 17 = some (.dup, 1)) rfl ?_
  refine Cr.iconst (by decide +kernel : zi 131 18 = some (.iconst 2, 1)) (by decide) ?_
  refine Cr.iconst (by decide +kernel : zi 131 19 = some (.iconst 2, 1)) (by decide) ?_
  refine Cr.iast (c := 73) (N := 16) (by decide +kernel : zi 131 20 = some (.iastore, 1)) (by decide +kernel) (by decide) (by decide) (by decide) ?_
  refine Cr.dup (by decide +kernel : zi 131 21 = some (.dup, 1)) rfl ?_
  refine Cr.iconst (by decide +kernel : zi 131 22 = some (.iconst 3, 1)) (by decide) ?_
  refine Cr.iconst (by decide +kernel : zi 131 23 = some (.iconst 3, 1)) (by decide) ?_
  refine Cr.iast (c := 73) (N := 16) (by decide +kernel : zi 131 24 = some (.iastore, 1)) (by decide +kernel) (by decide) (by decide) (by decide) ?_
  refine Cr.dup (by decide +kernel : zi 131 25 = some (.dup, 1)) rfl ?_
  refine Cr.iconst (by decide +kernel : zi 131 26 = some (.iconst 4, 1)) (by decide) ?_
  refine Cr.iconst (by decide +kernel : zi 131 27 = some (.iconst 1, 1)) (by decide) ?_
  refine Cr.iast (c := 73) (N := 16) (by decide +kernel : zi 131 28 = some (.iastore, 1)) (by decide +kernel) (by decide) (by decide) (by decide) ?_
  refine Cr.dup (by decide +kernel : zi 131 29 = some (.dup, 1)) rfl ?_
  refine Cr.iconst (by decide +kernel : zi 131 30 = some (.iconst 5, 1)) (by decide) ?_
  refine Cr.iconst (by decide +kernel : zi 131 31 = some (.iconst 0, 1)) (by decide) ?_
  refine Cr.iast (c := 73) (N := 16) (by decide +kernel : zi 131 32 = some (.iastore, 1)) (by decide +kernel) (by decide) (by decide) (by decide) ?_
  refine Cr.dup (by decide +kernel : zi 131 33 = some (.dup, 1)) rfl ?_
  refine Cr.bipush (by decide +kernel : zi 131 34 = some (.bipush 6, 2)) (by decide) ?_
  refine Cr.iconst (by decide +kernel : zi 131 36 = some (.iconst 1, 1)) (by decide) ?_
  refine Cr.iast (c := 73) (N := 16) (by decide +kernel : zi 131 37 = some (.iastore, 1)) (by decide +kernel) (by decide) (by decide) (by decide) ?_
  refine Cr.dup (by decide +kernel : zi 131 38 = some (.dup, 1)) rfl ?_
  refine Cr.bipush (by decide +kernel : zi 131 39 = some (.bipush 7, 2)) (by decide) ?_
  refine Cr.iconst (by decide +kernel : zi 131 41 = some (.iconst 2, 1)) (by decide) ?_
  refine Cr.iast (c := 73) (N := 16) (by decide +kernel : zi 131 42 = some (.iastore, 1)) (by decide +kernel) (by decide) (by decide) (by decide) ?_
  refine Cr.dup (by decide +kernel : zi 131 43 = some (.dup, 1)) rfl ?_
  refine Cr.bipush (by decide +kernel : zi 131 44 = some (.bipush 8, 2)) (by decide) ?_
  refine Cr.iconst (by decide +kernel : zi 131 46 = some (.iconst 2, 1)) (by decide) ?_
  refine Cr.iast (c := 73) (N := 16) (by decide +kernel : zi 131 47 = some (.iastore, 1)) (by decide +kernel) (by decide) (by decide) (by decide) ?_
  refine Cr.dup (by decide +kernel : zi 131 48 = some (.dup, 1)) rfl ?_
  refine Cr.bipush (by decide +kernel : zi 131 49 = some (.bipush 9, 2)) (by decide) ?_
  refine Cr.iconst (by decide +kernel : zi 131 51 = some (.iconst 1, 1)) (by decide) ?_
  refine Cr.iast (c := 73) (N := 16) (by decide +kernel : zi 131 52 = some (.iastore, 1)) (by decide +kernel) (by decide) (by decide) (by decide) ?_
  refine Cr.dup (by decide +kernel : zi 131 53 = some (.dup, 1)) rfl ?_
  refine Cr.bipush (by decide +kernel : zi 131 54 = some (.bipush 10, 2)) (by decide) ?_
  refine Cr.iconst (by decide +kernel : zi 131 56 = some (.iconst 0, 1)) (by decide) ?_
  refine Cr.iast (c := 73) (N := 16) (by decide +kernel : zi 131 57 = some (.iastore, 1)) (by decide +kernel) (by decide) (by decide) (by decide) ?_
  refine Cr.dup (by decide +kernel : zi 131 58 = some (.dup, 1)) rfl ?_
  refine Cr.bipush (by decide +kernel : zi 131 59 = some (.bipush 11, 2)) (by decide) ?_
  refine Cr.iconst (by decide +kernel : zi 131 61 = some (.iconst 1, 1)) (by decide) ?_
  refine Cr.iast (c := 73) (N := 16) (by decide +kernel : zi 131 62 = some (.iastore, 1)) (by decide +kernel) (by decide) (by decide) (by decide) ?_
  refine Cr.dup (by decide +kernel : zi 131 63 = some (.dup, 1)) rfl ?_
  refine Cr.bipush (by decide +kernel : zi 131 64 = some (.bipush 12, 2)) (by decide) ?_
  refine Cr.iconst (by decide +kernel : zi 131 66 = some (.iconst 3, 1)) (by decide) ?_
  refine Cr.iast (c := 73) (N := 16) (by decide +kernel : zi 131 67 = some (.iastore, 1)) (by decide +kernel) (by decide) (by decide) (by decide) ?_
  refine Cr.dup (by decide +kernel : zi 131 68 = some (.dup, 1)) rfl ?_
  refine Cr.bipush (by decide +kernel : zi 131 69 = some (.bipush 13, 2)) (by decide) ?_
  refine Cr.iconst (by decide +kernel : zi 131 71 = some (.iconst 2, 1)) (by decide) ?_
  refine Cr.iast (c := 73) (N := 16) (by decide +kernel : zi 131 72 = some (.iastore, 1)) (by decide +kernel) (by decide) (by decide) (by decide) ?_
  refine Cr.dup (by decide +kernel : zi 131 73 = some (.dup, 1)) rfl ?_
  refine Cr.bipush (by decide +kernel : zi 131 74 = some (.bipush 14, 2)) (by decide) ?_
  refine Cr.iconst (by decide +kernel : zi 131 76 = some (.iconst 1, 1)) (by decide) ?_
  refine Cr.iast (c := 73) (N := 16) (by decide +kernel : zi 131 77 = some (.iastore, 1)) (by decide +kernel) (by decide) (by decide) (by decide) ?_
  refine Cr.dup (by decide +kernel : zi 131 78 = some (.dup, 1)) rfl ?_
  refine Cr.bipush (by decide +kernel : zi 131 79 = some (.bipush 15, 2)) (by decide) ?_
  refine Cr.iconst (by decide +kernel : zi 131 81 = some (.iconst 0, 1)) (by decide) ?_
  refine Cr.iast (c := 73) (N := 16) (by decide +kernel : zi 131 82 = some (.iastore, 1)) (by decide +kernel) (by decide) (by decide) (by decide) ?_
  refine Cr.putR (c := 72) (w := 74) (ci := 8) (k := 1) 1 74 (by decide +kernel : zi 131 83 = some (.putfield 7, 3)) (by decide +kernel) (by decide +kernel) (by decide +kernel) (by decide) (by decide) (Or.inr ⟨by decide +kernel, by decide +kernel⟩) rfl rfl ?_
  refine Cr.aldn (c := 73) (by decide +kernel : zi 131 86 = some (.aload_n 0, 1)) rfl ⟨by decide, by decide⟩ ?_
  refine Cr.bipush (by decide +kernel : zi 131 87 = some (.bipush 7, 2)) (by decide) ?_
  refine Cr.newarr (n2 := 75) (k := 7) (by decide +kernel : zi 131 89 = some (.newarray .int, 2)) (by decide +kernel) (by decide) (by decide) rfl ?_
  refine Cr.putR (c := 72) (w := 75) (ci := 8) (k := 4) 4 75 (by decide +kernel : zi 131 91 = some (.putfield 13, 3)) (by decide +kernel) (by decide +kernel) (by decide +kernel) (by decide) (by decide) (Or.inr ⟨by decide +kernel, by decide +kernel⟩) rfl rfl ?_
  refine Cr.aldn (c := 73) (by decide +kernel : zi 131 94 = some (.aload_n 0, 1)) rfl ⟨by decide, by decide⟩ ?_
  refine Cr.bipush (by decide +kernel : zi 131 95 = some (.bipush 7, 2)) (by decide) ?_
  refine Cr.newarr (n2 := 76) (k := 7) (by decide +kernel : zi 131 97 = some (.newarray .int, 2)) (by decide +kernel) (by decide) (by decide) rfl ?_
  refine Cr.putR (c := 72) (w := 76) (ci := 8) (k := 5) 5 76 (by decide +kernel : zi 131 99 = some (.putfield 16, 3)) (by decide +kernel) (by decide +kernel) (by decide +kernel) (by decide) (by decide) (Or.inr ⟨by decide +kernel, by decide +kernel⟩) rfl rfl ?_
  refine Cr.aldn (c := 73) (by decide +kernel : zi 131 102 = some (.aload_n 0, 1)) rfl ⟨by decide, by decide⟩ ?_
  refine Cr.bipush (by decide +kernel : zi 131 103 = some (.bipush 7, 2)) (by decide) ?_
  refine Cr.newarr (n2 := 77) (k := 7) (by decide +kernel : zi 131 105 = some (.newarray .int, 2)) (by decide +kernel) (by decide) (by decide) rfl ?_
  refine Cr.putR (c := 72) (w := 77) (ci := 8) (k := 6) 6 77 (by decide +kernel : zi 131 107 = some (.putfield 19, 3)) (by decide +kernel) (by decide +kernel) (by decide +kernel) (by decide) (by decide) (Or.inr ⟨by decide +kernel, by decide +kernel⟩) rfl rfl ?_
  refine Cr.aldn (c := 73) (by decide +kernel : zi 131 110 = some (.aload_n 0, 1)) rfl ⟨by decide, by decide⟩ ?_
  refine Cr.bipush (by decide +kernel : zi 131 111 = some (.bipush 7, 2)) (by decide) ?_
  refine Cr.newarr (n2 := 78) (k := 7) (by decide +kernel : zi 131 113 = some (.newarray .int, 2)) (by decide +kernel) (by decide) (by decide) rfl ?_
  refine Cr.putR (c := 72) (w := 78) (ci := 8) (k := 7) 7 78 (by decide +kernel : zi 131 115 = some (.putfield 22, 3)) (by decide +kernel) (by decide +kernel) (by decide +kernel) (by decide) (by decide) (Or.inr ⟨by decide +kernel, by decide +kernel⟩) rfl rfl ?_
  refine Cr.aldn (c := 73) (by decide +kernel : zi 131 118 = some (.aload_n 0, 1)) rfl ⟨by decide, by decide⟩ ?_
  refine Cr.bipush (by decide +kernel : zi 131 119 = some (.bipush 7, 2)) (by decide) ?_
  refine Cr.newarr (n2 := 79) (k := 7) (by decide +kernel : zi 131 121 = some (.newarray .int, 2)) (by decide +kernel) (by decide) (by decide) rfl ?_
  refine Cr.putR (c := 72) (w := 79) (ci := 8) (k := 8) 8 79 (by decide +kernel : zi 131 123 = some (.putfield 25, 3)) (by decide +kernel) (by decide +kernel) (by decide +kernel) (by decide) (by decide) (Or.inr ⟨by decide +kernel, by decide +kernel⟩) rfl rfl ?_
  refine Cr.aldn (c := 73) (by decide +kernel : zi 131 126 = some (.aload_n 0, 1)) rfl ⟨by decide, by decide⟩ ?_
  refine Cr.bipush (by decide +kernel : zi 131 127 = some (.bipush 7, 2)) (by decide) ?_
  refine Cr.newarr (n2 := 80) (k := 7) (by decide +kernel : zi 131 129 = some (.newarray .int, 2)) (by decide +kernel) (by decide) (by decide) rfl ?_
  refine Cr.putR (c := 72) (w := 80) (ci := 8) (k := 9) 9 80 (by decide +kernel : zi 131 131 = some (.putfield 28, 3)) (by decide +kernel) (by decide +kernel) (by decide +kernel) (by decide) (by decide) (Or.inr ⟨by decide +kernel, by decide +kernel⟩) rfl rfl ?_
  refine Cr.aldn (c := 73) (by decide +kernel : zi 131 134 = some (.aload_n 0, 1)) rfl ⟨by decide, by decide⟩ ?_
  refine Cr.bipush (by decide +kernel : zi 131 135 = some (.bipush 7, 2)) (by decide) ?_
  refine Cr.newarr (n2 := 81) (k := 7) (by decide +kernel : zi 131 137 = some (.newarray .int, 2)) (by decide +kernel) (by decide) (by decide) rfl ?_
  refine Cr.putR (c := 72) (w := 81) (ci := 8) (k := 10) 10 81 (by decide +kernel : zi 131 139 = some (.putfield 31, 3)) (by decide +kernel) (by decide +kernel) (by decide +kernel) (by decide) (by decide) (Or.inr ⟨by decide +kernel, by decide +kernel⟩) rfl rfl ?_
  refine Cr.aldn (c := 73) (by decide +kernel : zi 131 142 = some (.aload_n 0, 1)) rfl ⟨by decide, by decide⟩ ?_
  refine Cr.sipush (by decide +kernel : zi 131 143 = some (.sipush 160, 3)) (by decide) ?_
  refine Cr.newarr (n2 := 82) (k := 160) (by decide +kernel : zi 131 146 = some (.newarray .byte, 2)) (by decide +kernel) (by decide) (by decide) rfl ?_
  refine Cr.putR (c := 72) (w := 82) (ci := 8) (k := 11) 11 82 (by decide +kernel : zi 131 148 = some (.putfield 34, 3)) (by decide +kernel) (by decide +kernel) (by decide +kernel) (by decide) (by decide) (Or.inr ⟨by decide +kernel, by decide +kernel⟩) rfl rfl ?_
  refine Cr.aldn (c := 73) (by decide +kernel : zi 131 151 = some (.aload_n 0, 1)) rfl ⟨by decide, by decide⟩ ?_
  refine Cr.iconst (by decide +kernel : zi 131 152 = some (.iconst 1, 1)) (by decide) ?_
  refine Cr.putI (c := 72) (ci := 8) (k := 13) (t := 0) 13 (by decide +kernel : zi 131 153 = some (.putfield 38, 3)) (by decide +kernel) (by decide) (by decide +kernel) (by decide +kernel) (by decide) (Or.inl (by decide +kernel)) rfl ?_
  refine Cr.aldn (c := 73) (by decide +kernel : zi 131 156 = some (.aload_n 0, 1)) rfl ⟨by decide, by decide⟩ ?_
  refine Cr.sipush (by decide +kernel : zi 131 157 = some (.sipush 1190, 3)) (by decide) ?_
  refine Cr.newarr (n2 := 83) (k := 1190) (by decide +kernel : zi 131 160 = some (.newarray .int, 2)) (by decide +kernel) (by decide) (by decide) rfl ?_
  refine Cr.putR (c := 72) (w := 83) (ci := 8) (k := 15) 15 83 (by decide +kernel : zi 131 162 = some (.putfield 42, 3)) (by decide +kernel) (by decide +kernel) (by decide +kernel) (by decide) (by decide) (Or.inr ⟨by decide +kernel, by decide +kernel⟩) rfl rfl ?_
  refine Cr.aldn (c := 73) (by decide +kernel : zi 131 165 = some (.aload_n 0, 1)) rfl ⟨by decide, by decide⟩ ?_
  refine Cr.sipush (by decide +kernel : zi 131 166 = some (.sipush 1190, 3)) (by decide) ?_
  refine Cr.newarr (n2 := 84) (k := 1190) (by decide +kernel : zi 131 169 = some (.newarray .int, 2)) (by decide +kernel) (by decide) (by decide) rfl ?_
  refine Cr.putR (c := 72) (w := 84) (ci := 8) (k := 16) 16 84 (by decide +kernel : zi 131 171 = some (.putfield 45, 3)) (by decide +kernel) (by decide +kernel) (by decide +kernel) (by decide) (by decide) (Or.inr ⟨by decide +kernel, by decide +kernel⟩) rfl rfl ?_
  refine Cr.aldn (c := 73) (by decide +kernel : zi 131 174 = some (.aload_n 0, 1)) rfl ⟨by decide, by decide⟩ ?_
  refine Cr.bipush (by decide +kernel : zi 131 175 = some (.bipush 21, 2)) (by decide) ?_
  refine Cr.newarr (n2 := 85) (k := 21) (by decide +kernel : zi 131 177 = some (.newarray .int, 2)) (by decide +kernel) (by decide) (by decide) rfl ?_
  refine Cr.putR (c := 72) (w := 85) (ci := 8) (k := 17) 17 85 (by decide +kernel : zi 131 179 = some (.putfield 48, 3)) (by decide +kernel) (by decide +kernel) (by decide +kernel) (by decide) (by decide) (Or.inr ⟨by decide +kernel, by decide +kernel⟩) rfl rfl ?_
  refine Cr.aldn (c := 73) (by decide +kernel : zi 131 182 = some (.aload_n 0, 1)) rfl ⟨by decide, by decide⟩ ?_
  refine Cr.sipush (by decide +kernel : zi 131 183 = some (.sipush 170, 3)) (by decide) ?_
  refine Cr.newarr (n2 := 86) (k := 170) (by decide +kernel : zi 131 186 = some (.newarray .int, 2)) (by decide +kernel) (by decide) (by decide) rfl ?_
  refine Cr.putR (c := 72) (w := 86) (ci := 8) (k := 25) 25 86 (by decide +kernel : zi 131 188 = some (.putfield 51, 3)) (by decide +kernel) (by decide +kernel) (by decide +kernel) (by decide) (by decide) (Or.inr ⟨by decide +kernel, by decide +kernel⟩) rfl rfl ?_
  refine Cr.aldn (c := 73) (by decide +kernel : zi 131 191 = some (.aload_n 0, 1)) rfl ⟨by decide, by decide⟩ ?_
  refine Cr.bipush (by decide +kernel : zi 131 192 = some (.bipush 6, 2)) (by decide) ?_
  refine Cr.newarr (n2 := 87) (k := 6) (by decide +kernel : zi 131 194 = some (.newarray .int, 2)) (by decide +kernel) (by decide) (by decide) rfl ?_
  refine Cr.putR (c := 72) (w := 87) (ci := 8) (k := 26) 26 87 (by decide +kernel : zi 131 196 = some (.putfield 54, 3)) (by decide +kernel) (by decide +kernel) (by decide +kernel) (by decide) (by decide) (Or.inr ⟨by decide +kernel, by decide +kernel⟩) rfl rfl ?_
  refine Cr.aldn (c := 73) (by decide +kernel : zi 131 199 = some (.aload_n 0, 1)) rfl ⟨by decide, by decide⟩ ?_
  refine Cr.bipush (by decide +kernel : zi 131 200 = some (.bipush 47, 2)) (by decide) ?_
  refine Cr.newarr (n2 := 88) (k := 47) (by decide +kernel : zi 131 202 = some (.newarray .int, 2)) (by decide +kernel) (by decide) (by decide) rfl ?_
  refine Cr.dup (by decide +kernel : zi 131 204 = some (.dup, 1)) rfl ?_
  refine Cr.iconst (by decide +kernel : zi 131 205 = some (.iconst 0, 1)) (by decide) ?_
  refine Cr.bipush (by decide +kernel : zi 131 206 = some (.bipush 111, 2)) (by decide) ?_
  refine Cr.iast (c := 87) (N := 47) (by decide +kernel : zi 131 208 = some (.iastore, 1)) (by decide +kernel) (by decide) (by decide) (by decide) ?_
  refine Cr.dup (by decide +kernel : zi 131 209 = some (.dup, 1)) rfl ?_
  refine Cr.iconst (by decide +kernel : zi 131 210 = some (.iconst 1, 1)) (by decide) ?_
  refine Cr.bipush (by decide +kernel : zi 131 211 = some (.bipush 102, 2)) (by decide) ?_
  refine Cr.iast (c := 87) (N := 47) (by decide +kernel : zi 131 213 = some (.iastore, 1)) (by decide +kernel) (by decide) (by decide) (by decide) ?_
  refine Cr.dup (by decide +kernel : zi 131 214 = some (.dup, 1)) rfl ?_
  refine Cr.iconst (by decide +kernel : zi 131 215 = some (.iconst 2, 1)) (by decide) ?_
  refine Cr.bipush (by decide +kernel : zi 131 216 = some (.bipush 102, 2)) (by decide) ?_
  refine Cr.iast (c := 87) (N := 47) (by decide +kernel : zi 131 218 = some (.iastore, 1)) (by decide +kernel) (by decide) (by decide) (by decide) ?_
  refine Cr.dup (by decide +kernel : zi 131 219 = some (.dup, 1)) rfl ?_
  refine Cr.iconst (by decide +kernel : zi 131 220 = some (.iconst 3, 1)) (by decide) ?_
  refine Cr.bipush (by decide +kernel : zi 131 221 = some (.bipush 32, 2)) (by decide) ?_
  refine Cr.iast (c := 87) (N := 47) (by decide +kernel : zi 131 223 = some (.iastore, 1)) (by decide +kernel) (by decide) (by decide) (by decide) ?_
  refine Cr.dup (by decide +kernel : zi 131 224 = some (.dup, 1)) rfl ?_
  refine Cr.iconst (by decide +kernel : zi 131 225 = some (.iconst 4, 1)) (by decide) ?_
  refine Cr.bipush (by decide +kernel : zi 131 226 = some (.bipush 111, 2)) (by decide) ?_
  refine Cr.iast (c := 87) (N := 47) (by decide +kernel : zi 131 228 = some (.iastore, 1)) (by decide +kernel) (by decide) (by decide) (by decide) ?_
  refine Cr.dup (by decide +kernel : zi 131 229 = some (.dup, 1)) rfl ?_
  refine Cr.iconst (by decide +kernel : zi 131 230 = some (.iconst 5, 1)) (by decide) ?_
  refine Cr.bipush (by decide +kernel : zi 131 231 = some (.bipush 110, 2)) (by decide) ?_
  refine Cr.iast (c := 87) (N := 47) (by decide +kernel : zi 131 233 = some (.iastore, 1)) (by decide +kernel) (by decide) (by decide) (by decide) ?_
  refine Cr.dup (by decide +kernel : zi 131 234 = some (.dup, 1)) rfl ?_
  refine Cr.bipush (by decide +kernel : zi 131 235 = some (.bipush 6, 2)) (by decide) ?_
  refine Cr.bipush (by decide +kernel : zi 131 237 = some (.bipush 32, 2)) (by decide) ?_
  refine Cr.iast (c := 87) (N := 47) (by decide +kernel : zi 131 239 = some (.iastore, 1)) (by decide +kernel) (by decide) (by decide) (by decide) ?_
  refine Cr.dup (by decide +kernel : zi 131 240 = some (.dup, 1)) rfl ?_
  refine Cr.bipush (by decide +kernel : zi 131 241 = some (.bipush 7, 2)) (by decide) ?_
  refine Cr.bipush (by decide +kernel : zi 131 243 = some (.bipush 97, 2)) (by decide) ?_
  refine Cr.iast (c := 87) (N := 47) (by decide +kernel : zi 131 245 = some (.iastore, 1)) (by decide +kernel) (by decide) (by decide) (by decide) ?_
  refine Cr.dup (by decide +kernel : zi 131 246 = some (.dup, 1)) rfl ?_
  refine Cr.bipush (by decide +kernel : zi 131 247 = some (.bipush 8, 2)) (by decide) ?_
  refine Cr.bipush (by decide +kernel : zi 131 249 = some (.bipush 116, 2)) (by decide) ?_
  refine Cr.iast (c := 87) (N := 47) (by decide +kernel : zi 131 251 = some (.iastore, 1)) (by decide +kernel) (by decide) (by decide) (by decide) ?_
  refine Cr.dup (by decide +kernel : zi 131 252 = some (.dup, 1)) rfl ?_
  refine Cr.bipush (by decide +kernel : zi 131 253 = some (.bipush 9, 2)) (by decide) ?_
  refine Cr.bipush (by decide +kernel : zi 131 255 = some (.bipush 32, 2)) (by decide) ?_
  refine Cr.iast (c := 87) (N := 47) (by decide +kernel : zi 131 257 = some (.iastore, 1)) (by decide +kernel) (by decide) (by decide) (by decide) ?_
  refine Cr.dup (by decide +kernel : zi 131 258 = some (.dup, 1)) rfl ?_
  refine Cr.bipush (by decide +kernel : zi 131 259 = some (.bipush 10, 2)) (by decide) ?_
  refine Cr.bipush (by decide +kernel : zi 131 261 = some (.bipush 98, 2)) (by decide) ?_
  refine Cr.iast (c := 87) (N := 47) (by decide +kernel : zi 131 263 = some (.iastore, 1)) (by decide +kernel) (by decide) (by decide) (by decide) ?_
  refine Cr.dup (by decide +kernel : zi 131 264 = some (.dup, 1)) rfl ?_
  refine Cr.bipush (by decide +kernel : zi 131 265 = some (.bipush 11, 2)) (by decide) ?_
  refine Cr.bipush (by decide +kernel : zi 131 267 = some (.bipush 97, 2)) (by decide) ?_
  refine Cr.iast (c := 87) (N := 47) (by decide +kernel : zi 131 269 = some (.iastore, 1)) (by decide +kernel) (by decide) (by decide) (by decide) ?_
  refine Cr.dup (by decide +kernel : zi 131 270 = some (.dup, 1)) rfl ?_
  refine Cr.bipush (by decide +kernel : zi 131 271 = some (.bipush 12, 2)) (by decide) ?_
  refine Cr.bipush (by decide +kernel : zi 131 273 = some (.bipush 115, 2)) (by decide) ?_
  refine Cr.iast (c := 87) (N := 47) (by decide +kernel : zi 131 275 = some (.iastore, 1)) (by decide +kernel) (by decide) (by decide) (by decide) ?_
  refine Cr.dup (by decide +kernel : zi 131 276 = some (.dup, 1)) rfl ?_
  refine Cr.bipush (by decide +kernel : zi 131 277 = some (.bipush 13, 2)) (by decide) ?_
  refine Cr.bipush (by decide +kernel : zi 131 279 = some (.bipush 101, 2)) (by decide) ?_
  refine Cr.iast (c := 87) (N := 47) (by decide +kernel : zi 131 281 = some (.iastore, 1)) (by decide +kernel) (by decide) (by decide) (by decide) ?_
  refine Cr.dup (by decide +kernel : zi 131 282 = some (.dup, 1)) rfl ?_
  refine Cr.bipush (by decide +kernel : zi 131 283 = some (.bipush 14, 2)) (by decide) ?_
  refine Cr.bipush (by decide +kernel : zi 131 285 = some (.bipush 32, 2)) (by decide) ?_
  refine Cr.iast (c := 87) (N := 47) (by decide +kernel : zi 131 287 = some (.iastore, 1)) (by decide +kernel) (by decide) (by decide) (by decide) ?_
  refine Cr.dup (by decide +kernel : zi 131 288 = some (.dup, 1)) rfl ?_
  refine Cr.bipush (by decide +kernel : zi 131 289 = some (.bipush 15, 2)) (by decide) ?_
  refine Cr.bipush (by decide +kernel : zi 131 291 = some (.bipush 104, 2)) (by decide) ?_
  refine Cr.iast (c := 87) (N := 47) (by decide +kernel : zi 131 293 = some (.iastore, 1)) (by decide +kernel) (by decide) (by decide) (by decide) ?_
  refine Cr.dup (by decide +kernel : zi 131 294 = some (.dup, 1)) rfl ?_
  refine Cr.bipush (by decide +kernel : zi 131 295 = some (.bipush 16, 2)) (by decide) ?_
  refine Cr.bipush (by decide +kernel : zi 131 297 = some (.bipush 111, 2)) (by decide) ?_
  refine Cr.iast (c := 87) (N := 47) (by decide +kernel : zi 131 299 = some (.iastore, 1)) (by decide +kernel) (by decide) (by decide) (by decide) ?_
  refine Cr.dup (by decide +kernel : zi 131 300 = some (.dup, 1)) rfl ?_
  refine Cr.bipush (by decide +kernel : zi 131 301 = some (.bipush 17, 2)) (by decide) ?_
  refine Cr.bipush (by decide +kernel : zi 131 303 = some (.bipush 117, 2)) (by decide) ?_
  refine Cr.iast (c := 87) (N := 47) (by decide +kernel : zi 131 305 = some (.iastore, 1)) (by decide +kernel) (by decide) (by decide) (by decide) ?_
  refine Cr.dup (by decide +kernel : zi 131 306 = some (.dup, 1)) rfl ?_
  refine Cr.bipush (by decide +kernel : zi 131 307 = some (.bipush 18, 2)) (by decide) ?_
  refine Cr.bipush (by decide +kernel : zi 131 309 = some (.bipush 114, 2)) (by decide) ?_
  refine Cr.iast (c := 87) (N := 47) (by decide +kernel : zi 131 311 = some (.iastore, 1)) (by decide +kernel) (by decide) (by decide) (by decide) ?_
  refine Cr.dup (by decide +kernel : zi 131 312 = some (.dup, 1)) rfl ?_
  refine Cr.bipush (by decide +kernel : zi 131 313 = some (.bipush 19, 2)) (by decide) ?_
  refine Cr.bipush (by decide +kernel : zi 131 315 = some (.bipush 32, 2)) (by decide) ?_
  refine Cr.iast (c := 87) (N := 47) (by decide +kernel : zi 131 317 = some (.iastore, 1)) (by decide +kernel) (by decide) (by decide) (by decide) ?_
  refine Cr.dup (by decide +kernel : zi 131 318 = some (.dup, 1)) rfl ?_
  refine Cr.bipush (by decide +kernel : zi 131 319 = some (.bipush 20, 2)) (by decide) ?_
  refine Cr.bipush (by decide +kernel : zi 131 321 = some (.bipush 98, 2)) (by decide) ?_
  refine Cr.iast (c := 87) (N := 47) (by decide +kernel : zi 131 323 = some (.iastore, 1)) (by decide +kernel) (by decide) (by decide) (by decide) ?_
  refine Cr.dup (by decide +kernel : zi 131 324 = some (.dup, 1)) rfl ?_
  refine Cr.bipush (by decide +kernel : zi 131 325 = some (.bipush 21, 2)) (by decide) ?_
  refine Cr.bipush (by decide +kernel : zi 131 327 = some (.bipush 121, 2)) (by decide) ?_
  refine Cr.iast (c := 87) (N := 47) (by decide +kernel : zi 131 329 = some (.iastore, 1)) (by decide +kernel) (by decide) (by decide) (by decide) ?_
  refine Cr.dup (by decide +kernel : zi 131 330 = some (.dup, 1)) rfl ?_
  refine Cr.bipush (by decide +kernel : zi 131 331 = some (.bipush 22, 2)) (by decide) ?_
  refine Cr.bipush (by decide +kernel : zi 131 333 = some (.bipush 32, 2)) (by decide) ?_
  refine Cr.iast (c := 87) (N := 47) (by decide +kernel : zi 131 335 = some (.iastore, 1)) (by decide +kernel) (by decide) (by decide) (by decide) ?_
  refine Cr.dup (by decide +kernel : zi 131 336 = some (.dup, 1)) rfl ?_
  refine Cr.bipush (by decide +kernel : zi 131 337 = some (.bipush 23, 2)) (by decide) ?_
  refine Cr.bipush (by decide +kernel : zi 131 339 = some (.bipush 109, 2)) (by decide) ?_
  refine Cr.iast (c := 87) (N := 47) (by decide +kernel : zi 131 341 = some (.iastore, 1)) (by decide +kernel) (by decide) (by decide) (by decide) ?_
  refine Cr.dup (by decide +kernel : zi 131 342 = some (.dup, 1)) rfl ?_
  refine Cr.bipush (by decide +kernel : zi 131 343 = some (.bipush 24, 2)) (by decide) ?_
  refine Cr.bipush (by decide +kernel : zi 131 345 = some (.bipush 97, 2)) (by decide) ?_
  refine Cr.iast (c := 87) (N := 47) (by decide +kernel : zi 131 347 = some (.iastore, 1)) (by decide +kernel) (by decide) (by decide) (by decide) ?_
  refine Cr.dup (by decide +kernel : zi 131 348 = some (.dup, 1)) rfl ?_
  refine Cr.bipush (by decide +kernel : zi 131 349 = some (.bipush 25, 2)) (by decide) ?_
  refine Cr.bipush (by decide +kernel : zi 131 351 = some (.bipush 121, 2)) (by decide) ?_
  refine Cr.iast (c := 87) (N := 47) (by decide +kernel : zi 131 353 = some (.iastore, 1)) (by decide +kernel) (by decide) (by decide) (by decide) ?_
  refine Cr.dup (by decide +kernel : zi 131 354 = some (.dup, 1)) rfl ?_
  refine Cr.bipush (by decide +kernel : zi 131 355 = some (.bipush 26, 2)) (by decide) ?_
  refine Cr.bipush (by decide +kernel : zi 131 357 = some (.bipush 32, 2)) (by decide) ?_
  refine Cr.iast (c := 87) (N := 47) (by decide +kernel : zi 131 359 = some (.iastore, 1)) (by decide +kernel) (by decide) (by decide) (by decide) ?_
  refine Cr.dup (by decide +kernel : zi 131 360 = some (.dup, 1)) rfl ?_
  refine Cr.bipush (by decide +kernel : zi 131 361 = some (.bipush 27, 2)) (by decide) ?_
  refine Cr.bipush (by decide +kernel : zi 131 363 = some (.bipush 114, 2)) (by decide) ?_
  refine Cr.iast (c := 87) (N := 47) (by decide +kernel : zi 131 365 = some (.iastore, 1)) (by decide +kernel) (by decide) (by decide) (by decide) ?_
  refine Cr.dup (by decide +kernel : zi 131 366 = some (.dup, 1)) rfl ?_
  refine Cr.bipush (by decide +kernel : zi 131 367 = some (.bipush 28, 2)) (by decide) ?_
  refine Cr.bipush (by decide +kernel : zi 131 369 = some (.bipush 111, 2)) (by decide) ?_
  refine Cr.iast (c := 87) (N := 47) (by decide +kernel : zi 131 371 = some (.iastore, 1)) (by decide +kernel) (by decide) (by decide) (by decide) ?_
  refine Cr.dup (by decide +kernel : zi 131 372 = some (.dup, 1)) rfl ?_
  refine Cr.bipush (by decide +kernel : zi 131 373 = some (.bipush 29, 2)) (by decide) ?_
  refine Cr.bipush (by decide +kernel : zi 131 375 = some (.bipush 119, 2)) (by decide) ?_
  refine Cr.iast (c := 87) (N := 47) (by decide +kernel : zi 131 377 = some (.iastore, 1)) (by decide +kernel) (by decide) (by decide) (by decide) ?_
  refine Cr.dup (by decide +kernel : zi 131 378 = some (.dup, 1)) rfl ?_
  refine Cr.bipush (by decide +kernel : zi 131 379 = some (.bipush 30, 2)) (by decide) ?_
  refine Cr.bipush (by decide +kernel : zi 131 381 = some (.bipush 32, 2)) (by decide) ?_
  refine Cr.iast (c := 87) (N := 47) (by decide +kernel : zi 131 383 = some (.iastore, 1)) (by decide +kernel) (by decide) (by decide) (by decide) ?_
  refine Cr.dup (by decide +kernel : zi 131 384 = some (.dup, 1)) rfl ?_
  refine Cr.bipush (by decide +kernel : zi 131 385 = some (.bipush 31, 2)) (by decide) ?_
  refine Cr.bipush (by decide +kernel : zi 131 387 = some (.bipush 103, 2)) (by decide) ?_
  refine Cr.iast (c := 87) (N := 47) (by decide +kernel : zi 131 389 = some (.iastore, 1)) (by decide +kernel) (by decide) (by decide) (by decide) ?_
  refine Cr.dup (by decide +kernel : zi 131 390 = some (.dup, 1)) rfl ?_
  refine Cr.bipush (by decide +kernel : zi 131 391 = some (.bipush 32, 2)) (by decide) ?_
  refine Cr.bipush (by decide +kernel : zi 131 393 = some (.bipush 97, 2)) (by decide) ?_
  refine Cr.iast (c := 87) (N := 47) (by decide +kernel : zi 131 395 = some (.iastore, 1)) (by decide +kernel) (by decide) (by decide) (by decide) ?_
  refine Cr.dup (by decide +kernel : zi 131 396 = some (.dup, 1)) rfl ?_
  refine Cr.bipush (by decide +kernel : zi 131 397 = some (.bipush 33, 2)) (by decide) ?_
  refine Cr.bipush (by decide +kernel : zi 131 399 = some (.bipush 105, 2)) (by decide) ?_
  refine Cr.iast (c := 87) (N := 47) (by decide +kernel : zi 131 401 = some (.iastore, 1)) (by decide +kernel) (by decide) (by decide) (by decide) ?_
  refine Cr.dup (by decide +kernel : zi 131 402 = some (.dup, 1)) rfl ?_
  refine Cr.bipush (by decide +kernel : zi 131 403 = some (.bipush 34, 2)) (by decide) ?_
  refine Cr.bipush (by decide +kernel : zi 131 405 = some (.bipush 110, 2)) (by decide) ?_
  refine Cr.iast (c := 87) (N := 47) (by decide +kernel : zi 131 407 = some (.iastore, 1)) (by decide +kernel) (by decide) (by decide) (by decide) ?_
  refine Cr.dup (by decide +kernel : zi 131 408 = some (.dup, 1)) rfl ?_
  refine Cr.bipush (by decide +kernel : zi 131 409 = some (.bipush 35, 2)) (by decide) ?_
  refine Cr.bipush (by decide +kernel : zi 131 411 = some (.bipush 32, 2)) (by decide) ?_
  refine Cr.iast (c := 87) (N := 47) (by decide +kernel : zi 131 413 = some (.iastore, 1)) (by decide +kernel) (by decide) (by decide) (by decide) ?_
  refine Cr.dup (by decide +kernel : zi 131 414 = some (.dup, 1)) rfl ?_
  refine Cr.bipush (by decide +kernel : zi 131 415 = some (.bipush 36, 2)) (by decide) ?_
  refine Cr.bipush (by decide +kernel : zi 131 417 = some (.bipush 111, 2)) (by decide) ?_
  refine Cr.iast (c := 87) (N := 47) (by decide +kernel : zi 131 419 = some (.iastore, 1)) (by decide +kernel) (by decide) (by decide) (by decide) ?_
  refine Cr.dup (by decide +kernel : zi 131 420 = some (.dup, 1)) rfl ?_
  refine Cr.bipush (by decide +kernel : zi 131 421 = some (.bipush 37, 2)) (by decide) ?_
  refine Cr.bipush (by decide +kernel : zi 131 423 = some (.bipush 114, 2)) (by decide) ?_
  refine Cr.iast (c := 87) (N := 47) (by decide +kernel : zi 131 425 = some (.iastore, 1)) (by decide +kernel) (by decide) (by decide) (by decide) ?_
  refine Cr.dup (by decide +kernel : zi 131 426 = some (.dup, 1)) rfl ?_
  refine Cr.bipush (by decide +kernel : zi 131 427 = some (.bipush 38, 2)) (by decide) ?_
  refine Cr.bipush (by decide +kernel : zi 131 429 = some (.bipush 32, 2)) (by decide) ?_
  refine Cr.iast (c := 87) (N := 47) (by decide +kernel : zi 131 431 = some (.iastore, 1)) (by decide +kernel) (by decide) (by decide) (by decide) ?_
  refine Cr.dup (by decide +kernel : zi 131 432 = some (.dup, 1)) rfl ?_
  refine Cr.bipush (by decide +kernel : zi 131 433 = some (.bipush 39, 2)) (by decide) ?_
  refine Cr.bipush (by decide +kernel : zi 131 435 = some (.bipush 97, 2)) (by decide) ?_
  refine Cr.iast (c := 87) (N := 47) (by decide +kernel : zi 131 437 = some (.iastore, 1)) (by decide +kernel) (by decide) (by decide) (by decide) ?_
  refine Cr.dup (by decide +kernel : zi 131 438 = some (.dup, 1)) rfl ?_
  refine Cr.bipush (by decide +kernel : zi 131 439 = some (.bipush 40, 2)) (by decide) ?_
  refine Cr.bipush (by decide +kernel : zi 131 441 = some (.bipush 110, 2)) (by decide) ?_
  refine Cr.iast (c := 87) (N := 47) (by decide +kernel : zi 131 443 = some (.iastore, 1)) (by decide +kernel) (by decide) (by decide) (by decide) ?_
  refine Cr.dup (by decide +kernel : zi 131 444 = some (.dup, 1)) rfl ?_
  refine Cr.bipush (by decide +kernel : zi 131 445 = some (.bipush 41, 2)) (by decide) ?_
  refine Cr.bipush (by decide +kernel : zi 131 447 = some (.bipush 100, 2)) (by decide) ?_
  refine Cr.iast (c := 87) (N := 47) (by decide +kernel : zi 131 449 = some (.iastore, 1)) (by decide +kernel) (by decide) (by decide) (by decide) ?_
  refine Cr.dup (by decide +kernel : zi 131 450 = some (.dup, 1)) rfl ?_
  refine Cr.bipush (by decide +kernel : zi 131 451 = some (.bipush 42, 2)) (by decide) ?_
  refine Cr.bipush (by decide +kernel : zi 131 453 = some (.bipush 32, 2)) (by decide) ?_
  refine Cr.iast (c := 87) (N := 47) (by decide +kernel : zi 131 455 = some (.iastore, 1)) (by decide +kernel) (by decide) (by decide) (by decide) ?_
  refine Cr.dup (by decide +kernel : zi 131 456 = some (.dup, 1)) rfl ?_
  refine Cr.bipush (by decide +kernel : zi 131 457 = some (.bipush 43, 2)) (by decide) ?_
  refine Cr.bipush (by decide +kernel : zi 131 459 = some (.bipush 110, 2)) (by decide) ?_
  refine Cr.iast (c := 87) (N := 47) (by decide +kernel : zi 131 461 = some (.iastore, 1)) (by decide +kernel) (by decide) (by decide) (by decide) ?_
  refine Cr.dup (by decide +kernel : zi 131 462 = some (.dup, 1)) rfl ?_
  refine Cr.bipush (by decide +kernel : zi 131 463 = some (.bipush 44, 2)) (by decide) ?_
  refine Cr.bipush (by decide +kernel : zi 131 465 = some (.bipush 111, 2)) (by decide) ?_
  refine Cr.iast (c := 87) (N := 47) (by decide +kernel : zi 131 467 = some (.iastore, 1)) (by decide +kernel) (by decide) (by decide) (by decide) ?_
  refine Cr.dup (by decide +kernel : zi 131 468 = some (.dup, 1)) rfl ?_
  refine Cr.bipush (by decide +kernel : zi 131 469 = some (.bipush 45, 2)) (by decide) ?_
  refine Cr.bipush (by decide +kernel : zi 131 471 = some (.bipush 116, 2)) (by decide) ?_
  refine Cr.iast (c := 87) (N := 47) (by decide +kernel : zi 131 473 = some (.iastore, 1)) (by decide +kernel) (by decide) (by decide) (by decide) ?_
  refine Cr.dup (by decide +kernel : zi 131 474 = some (.dup, 1)) rfl ?_
  refine Cr.bipush (by decide +kernel : zi 131 475 = some (.bipush 46, 2)) (by decide) ?_
  refine Cr.bipush (by decide +kernel : zi 131 477 = some (.bipush 32, 2)) (by decide) ?_
  refine Cr.iast (c := 87) (N := 47) (by decide +kernel : zi 131 479 = some (.iastore, 1)) (by decide +kernel) (by decide) (by decide) (by decide) ?_
  refine Cr.putR (c := 72) (w := 88) (ci := 8) (k := 27) 27 88 (by decide +kernel : zi 131 480 = some (.putfield 57, 3)) (by decide +kernel) (by decide +kernel) (by decide +kernel) (by decide) (by decide) (Or.inr ⟨by decide +kernel, by decide +kernel⟩) rfl rfl ?_
  refine Cr.aldn (c := 73) (by decide +kernel : zi 131 483 = some (.aload_n 0, 1)) rfl ⟨by decide, by decide⟩ ?_
  refine Cr.bipush (by decide +kernel : zi 131 484 = some (.bipush 12, 2)) (by decide) ?_
  refine Cr.newarr (n2 := 89) (k := 12) (by decide +kernel : zi 131 486 = some (.newarray .int, 2)) (by decide +kernel) (by decide) (by decide) rfl ?_
  refine Cr.dup (by decide +kernel : zi 131 488 = some (.dup, 1)) rfl ?_
  refine Cr.iconst (by decide +kernel : zi 131 489 = some (.iconst 0, 1)) (by decide) ?_
  refine Cr.iconst (by decide +kernel : zi 131 490 = some (.iconst 0, 1)) (by decide) ?_
  refine Cr.iast (c := 88) (N := 12) (by decide +kernel : zi 131 491 = some (.iastore, 1)) (by decide +kernel) (by decide) (by decide) (by decide) ?_
  refine Cr.dup (by decide +kernel : zi 131 492 = some (.dup, 1)) rfl ?_
  refine Cr.iconst (by decide +kernel : zi 131 493 = some (.iconst 1, 1)) (by decide) ?_
  refine Cr.iconst (by decide +kernel : zi 131 494 = some (.iconst 1, 1)) (by decide) ?_
  refine Cr.iast (c := 88) (N := 12) (by decide +kernel : zi 131 495 = some (.iastore, 1)) (by decide +kernel) (by decide) (by decide) (by decide) ?_
  refine Cr.dup (by decide +kernel : zi 131 496 = some (.dup, 1)) rfl ?_
  refine Cr.iconst (by decide +kernel : zi 131 497 = some (.iconst 2, 1)) (by decide) ?_
  refine Cr.iconst (by decide +kernel : zi 131 498 = some (.iconst 2, 1)) (by decide) ?_
  refine Cr.iast (c := 88) (N := 12) (by decide +kernel : zi 131 499 = some (.iastore, 1)) (by decide +kernel) (by decide) (by decide) (by decide) ?_
  refine Cr.dup (by decide +kernel : zi 131 500 = some (.dup, 1)) rfl ?_
  refine Cr.iconst (by decide +kernel : zi 131 501 = some (.iconst 3, 1)) (by decide) ?_
  refine Cr.iconst (by decide +kernel : zi 131 502 = some (.iconst 3, 1)) (by decide) ?_
  refine Cr.iast (c := 88) (N := 12) (by decide +kernel : zi 131 503 = some (.iastore, 1)) (by decide +kernel) (by decide) (by decide) (by decide) ?_
  refine Cr.dup (by decide +kernel : zi 131 504 = some (.dup, 1)) rfl ?_
  refine Cr.iconst (by decide +kernel : zi 131 505 = some (.iconst 4, 1)) (by decide) ?_
  refine Cr.iconst (by decide +kernel : zi 131 506 = some (.iconst 4, 1)) (by decide) ?_
  refine Cr.iast (c := 88) (N := 12) (by decide +kernel : zi 131 507 = some (.iastore, 1)) (by decide +kernel) (by decide) (by decide) (by decide) ?_
  refine Cr.dup (by decide +kernel : zi 131 508 = some (.dup, 1)) rfl ?_
  refine Cr.iconst (by decide +kernel : zi 131 509 = some (.iconst 5, 1)) (by decide) ?_
  refine Cr.iconst (by decide +kernel : zi 131 510 = some (.iconst 5, 1)) (by decide) ?_
  refine Cr.iast (c := 88) (N := 12) (by decide +kernel : zi 131 511 = some (.iastore, 1)) (by decide +kernel) (by decide) (by decide) (by decide) ?_
  refine Cr.dup (by decide +kernel : zi 131 512 = some (.dup, 1)) rfl ?_
  refine Cr.bipush (by decide +kernel : zi 131 513 = some (.bipush 6, 2)) (by decide) ?_
  refine Cr.bipush (by decide +kernel : zi 131 515 = some (.bipush 10, 2)) (by decide) ?_
  refine Cr.iast (c := 88) (N := 12) (by decide +kernel : zi 131 517 = some (.iastore, 1)) (by decide +kernel) (by decide) (by decide) (by decide) ?_
  refine Cr.dup (by decide +kernel : zi 131 518 = some (.dup, 1)) rfl ?_
  refine Cr.bipush (by decide +kernel : zi 131 519 = some (.bipush 7, 2)) (by decide) ?_
  refine Cr.bipush (by decide +kernel : zi 131 521 = some (.bipush 11, 2)) (by decide) ?_
  refine Cr.iast (c := 88) (N := 12) (by decide +kernel : zi 131 523 = some (.iastore, 1)) (by decide +kernel) (by decide) (by decide) (by decide) ?_
  refine Cr.dup (by decide +kernel : zi 131 524 = some (.dup, 1)) rfl ?_
  refine Cr.bipush (by decide +kernel : zi 131 525 = some (.bipush 8, 2)) (by decide) ?_
  refine Cr.bipush (by decide +kernel : zi 131 527 = some (.bipush 12, 2)) (by decide) ?_
  refine Cr.iast (c := 88) (N := 12) (by decide +kernel : zi 131 529 = some (.iastore, 1)) (by decide +kernel) (by decide) (by decide) (by decide) ?_
  refine Cr.dup (by decide +kernel : zi 131 530 = some (.dup, 1)) rfl ?_
  refine Cr.bipush (by decide +kernel : zi 131 531 = some (.bipush 9, 2)) (by decide) ?_
  refine Cr.bipush (by decide +kernel : zi 131 533 = some (.bipush 13, 2)) (by decide) ?_
  refine Cr.iast (c := 88) (N := 12) (by decide +kernel : zi 131 535 = some (.iastore, 1)) (by decide +kernel) (by decide) (by decide) (by decide) ?_
  refine Cr.dup (by decide +kernel : zi 131 536 = some (.dup, 1)) rfl ?_
  refine Cr.bipush (by decide +kernel : zi 131 537 = some (.bipush 10, 2)) (by decide) ?_
  refine Cr.bipush (by decide +kernel : zi 131 539 = some (.bipush 14, 2)) (by decide) ?_
  refine Cr.iast (c := 88) (N := 12) (by decide +kernel : zi 131 541 = some (.iastore, 1)) (by decide +kernel) (by decide) (by decide) (by decide) ?_
  refine Cr.dup (by decide +kernel : zi 131 542 = some (.dup, 1)) rfl ?_
  refine Cr.bipush (by decide +kernel : zi 131 543 = some (.bipush 11, 2)) (by decide) ?_
  refine Cr.bipush (by decide +kernel : zi 131 545 = some (.bipush 15, 2)) (by decide) ?_
  refine Cr.iast (c := 88) (N := 12) (by decide +kernel : zi 131 547 = some (.iastore, 1)) (by decide +kernel) (by decide) (by decide) (by decide) ?_
  refine Cr.putR (c := 72) (w := 89) (ci := 8) (k := 28) 28 89 (by decide +kernel : zi 131 548 = some (.putfield 60, 3)) (by decide +kernel) (by decide +kernel) (by decide +kernel) (by decide) (by decide) (Or.inr ⟨by decide +kernel, by decide +kernel⟩) rfl rfl ?_
  refine Cr.aldn (c := 73) (by decide +kernel : zi 131 551 = some (.aload_n 0, 1)) rfl ⟨by decide, by decide⟩ ?_
  refine Cr.bipush (by decide +kernel : zi 131 552 = some (.bipush 16, 2)) (by decide) ?_
  refine Cr.newarr (n2 := 90) (k := 16) (by decide +kernel : zi 131 554 = some (.newarray .int, 2)) (by decide +kernel) (by decide) (by decide) rfl ?_
  refine Cr.putR (c := 72) (w := 90) (ci := 8) (k := 30) 30 90 (by decide +kernel : zi 131 556 = some (.putfield 63, 3)) (by decide +kernel) (by decide +kernel) (by decide +kernel) (by decide) (by decide) (Or.inr ⟨by decide +kernel, by decide +kernel⟩) rfl rfl ?_
  refine Cr.aldn (c := 73) (by decide +kernel : zi 131 559 = some (.aload_n 0, 1)) rfl ⟨by decide, by decide⟩ ?_
  refine Cr.bipush (by decide +kernel : zi 131 560 = some (.bipush 16, 2)) (by decide) ?_
  refine Cr.newarr (n2 := 91) (k := 16) (by decide +kernel : zi 131 562 = some (.newarray .int, 2)) (by decide +kernel) (by decide) (by decide) rfl ?_
  refine Cr.putR (c := 72) (w := 91) (ci := 8) (k := 31) 31 91 (by decide +kernel : zi 131 564 = some (.putfield 66, 3)) (by decide +kernel) (by decide +kernel) (by decide +kernel) (by decide) (by decide) (Or.inr ⟨by decide +kernel, by decide +kernel⟩) rfl rfl ?_
  refine Cr.aldn (c := 73) (by decide +kernel : zi 131 567 = some (.aload_n 0, 1)) rfl ⟨by decide, by decide⟩ ?_
  refine Cr.bipush (by decide +kernel : zi 131 568 = some (.bipush 16, 2)) (by decide) ?_
  refine Cr.newarr (n2 := 92) (k := 16) (by decide +kernel : zi 131 570 = some (.newarray .int, 2)) (by decide +kernel) (by decide) (by decide) rfl ?_
  refine Cr.putR (c := 72) (w := 92) (ci := 8) (k := 32) 32 92 (by decide +kernel : zi 131 572 = some (.putfield 69, 3)) (by decide +kernel) (by decide +kernel) (by decide +kernel) (by decide) (by decide) (Or.inr ⟨by decide +kernel, by decide +kernel⟩) rfl rfl ?_
  refine Cr.aldn (c := 73) (by decide +kernel : zi 131 575 = some (.aload_n 0, 1)) rfl ⟨by decide, by decide⟩ ?_
  refine Cr.bipush (by decide +kernel : zi 131 576 = some (.bipush 7, 2)) (by decide) ?_
  refine Cr.newarr (n2 := 93) (k := 7) (by decide +kernel : zi 131 578 = some (.newarray .int, 2)) (by decide +kernel) (by decide) (by decide) rfl ?_
  refine Cr.putR (c := 72) (w := 93) (ci := 8) (k := 33) 33 93 (by decide +kernel : zi 131 580 = some (.putfield 72, 3)) (by decide +kernel) (by decide +kernel) (by decide +kernel) (by decide) (by decide) (Or.inr ⟨by decide +kernel, by decide +kernel⟩) rfl rfl ?_
  refine Cr.aldn (c := 73) (by decide +kernel : zi 131 583 = some (.aload_n 0, 1)) rfl ⟨by decide, by decide⟩ ?_
  refine Cr.sipush (by decide +kernel : zi 131 584 = some (.sipush 1500, 3)) (by decide) ?_
  refine Cr.newarr (n2 := 94) (k := 1500) (by decide +kernel : zi 131 587 = some (.newarray .int, 2)) (by decide +kernel) (by decide) (by decide) rfl ?_
  refine Cr.putR (c := 72) (w := 94) (ci := 8) (k := 38) 38 94 (by decide +kernel : zi 131 589 = some (.putfield 75, 3)) (by decide +kernel) (by decide +kernel) (by decide +kernel) (by decide) (by decide) (Or.inr ⟨by decide +kernel, by decide +kernel⟩) rfl rfl ?_
  refine Cr.aldn (c := 73) (by decide +kernel : zi 131 592 = some (.aload_n 0, 1)) rfl ⟨by decide, by decide⟩ ?_
  refine Cr.sipush (by decide +kernel : zi 131 593 = some (.sipush 1500, 3)) (by decide) ?_
  refine Cr.newarr (n2 := 95) (k := 1500) (by decide +kernel : zi 131 596 = some (.newarray .int, 2)) (by decide +kernel) (by decide) (by decide) rfl ?_
  refine Cr.putR (c := 72) (w := 95) (ci := 8) (k := 39) 39 95 (by decide +kernel : zi 131 598 = some (.putfield 78, 3)) (by decide +kernel) (by decide +kernel) (by decide +kernel) (by decide) (by decide) (Or.inr ⟨by decide +kernel, by decide +kernel⟩) rfl rfl ?_
  refine Cr.aldn (c := 73) (by decide +kernel : zi 131 601 = some (.aload_n 0, 1)) rfl ⟨by decide, by decide⟩ ?_
  refine Cr.sipush (by decide +kernel : zi 131 602 = some (.sipush 1500, 3)) (by decide) ?_
  refine Cr.newarr (n2 := 96) (k := 1500) (by decide +kernel : zi 131 605 = some (.newarray .boolean, 2)) (by decide +kernel) (by decide) (by decide) rfl ?_
  refine Cr.putR (c := 72) (w := 96) (ci := 8) (k := 40) 40 96 (by decide +kernel : zi 131 607 = some (.putfield 81, 3)) (by decide +kernel) (by decide +kernel) (by decide +kernel) (by decide) (by decide) (Or.inr ⟨by decide +kernel, by decide +kernel⟩) rfl rfl ?_
  refine Cr.aldn (c := 73) (by decide +kernel : zi 131 610 = some (.aload_n 0, 1)) rfl ⟨by decide, by decide⟩ ?_
  refine Cr.sipush (by decide +kernel : zi 131 611 = some (.sipush 4096, 3)) (by decide) ?_
  refine Cr.newarr (n2 := 97) (k := 4096) (by decide +kernel : zi 131 614 = some (.newarray .int, 2)) (by decide +kernel) (by decide) (by decide) rfl ?_
  refine Cr.putR (c := 72) (w := 97) (ci := 8) (k := 41) 41 97 (by decide +kernel : zi 131 616 = some (.putfield 85, 3)) (by decide +kernel) (by decide +kernel) (by decide +kernel) (by decide) (by decide) (Or.inr ⟨by decide +kernel, by decide +kernel⟩) rfl rfl ?_
  refine Cr.aldn (c := 73) (by decide +kernel : zi 131 619 = some (.aload_n 0, 1)) rfl ⟨by decide, by decide⟩ ?_
  refine Cr.bipush (by decide +kernel : zi 131 620 = some (.bipush 7, 2)) (by decide) ?_
  refine Cr.newarr (n2 := 98) (k := 7) (by decide +kernel : zi 131 622 = some (.newarray .int, 2)) (by decide +kernel) (by decide) (by decide) rfl ?_
  refine Cr.putR (c := 72) (w := 98) (ci := 8) (k := 42) 42 98 (by decide +kernel : zi 131 624 = some (.putfield 88, 3)) (by decide +kernel) (by decide +kernel) (by decide +kernel) (by decide) (by decide) (Or.inr ⟨by decide +kernel, by decide +kernel⟩) rfl rfl ?_
  refine Cr.aldn (c := 73) (by decide +kernel : zi 131 627 = some (.aload_n 0, 1)) rfl ⟨by decide, by decide⟩ ?_
  refine Cr.iconst (by decide +kernel : zi 131 628 = some (.iconst 4, 1)) (by decide) ?_
  refine Cr.newarr (n2 := 99) (k := 4) (by decide +kernel : zi 131 629 = some (.newarray .int, 2)) (by decide +kernel) (by decide) (by decide) rfl ?_
  refine Cr.putR (c := 72) (w := 99) (ci := 8) (k := 43) 43 99 (by decide +kernel : zi 131 631 = some (.putfield 91, 3)) (by decide +kernel) (by decide +kernel) (by decide +kernel) (by decide) (by decide) (Or.inr ⟨by decide +kernel, by decide +kernel⟩) rfl rfl ?_
  refine Cr.aldn (c := 73) (by decide +kernel : zi 131 634 = some (.aload_n 0, 1)) rfl ⟨by decide, by decide⟩ ?_
  refine Cr.bipush (by decide +kernel : zi 131 635 = some (.bipush 6, 2)) (by decide) ?_
  refine Cr.newarr (n2 := 100) (k := 6) (by decide +kernel : zi 131 637 = some (.newarray .int, 2)) (by decide +kernel) (by decide) (by decide) rfl ?_
  refine Cr.putR (c := 72) (w := 100) (ci := 8) (k := 49) 49 100 (by decide +kernel : zi 131 639 = some (.putfield 94, 3)) (by decide +kernel) (by decide +kernel) (by decide +kernel) (by decide) (by decide) (Or.inr ⟨by decide +kernel, by decide +kernel⟩) rfl rfl ?_
  refine Cr.aldn (c := 73) (by decide +kernel : zi 131 642 = some (.aload_n 0, 1)) rfl ⟨by decide, by decide⟩ ?_
  refine Cr.bipush (by decide +kernel : zi 131 643 = some (.bipush 6, 2)) (by decide) ?_
  refine Cr.newarr (n2 := 101) (k := 6) (by decide +kernel : zi 131 645 = some (.newarray .int, 2)) (by decide +kernel) (by decide) (by decide) rfl ?_
  refine Cr.putR (c := 72) (w := 101) (ci := 8) (k := 50) 50 101 (by decide +kernel : zi 131 647 = some (.putfield 97, 3)) (by decide +kernel) (by decide +kernel) (by decide +kernel) (by decide) (by decide) (Or.inr ⟨by decide +kernel, by decide +kernel⟩) rfl rfl ?_
  refine Cr.aldn (c := 73) (by decide +kernel : zi 131 650 = some (.aload_n 0, 1)) rfl ⟨by decide, by decide⟩ ?_
  refine Cr.bipush (by decide +kernel : zi 131 651 = some (.bipush 16, 2)) (by decide) ?_
  refine Cr.newarr (n2 := 102) (k := 16) (by decide +kernel : zi 131 653 = some (.newarray .int, 2)) (by decide +kernel) (by decide) (by decide) rfl ?_
  refine Cr.putR (c := 72) (w := 102) (ci := 8) (k := 51) 51 102 (by decide +kernel : zi 131 655 = some (.putfield 100, 3)) (by decide +kernel) (by decide +kernel) (by decide +kernel) (by decide) (by decide) (Or.inr ⟨by decide +kernel, by decide +kernel⟩) rfl rfl ?_
  refine Cr.aldn (c := 73) (by decide +kernel : zi 131 658 = some (.aload_n 0, 1)) rfl ⟨by decide, by decide⟩ ?_
  refine Cr.iconst (by decide +kernel : zi 131 659 = some (.iconst 4, 1)) (by decide) ?_
  refine Cr.newarr (n2 := 103) (k := 4) (by decide +kernel : zi 131 660 = some (.newarray .int, 2)) (by decide +kernel) (by decide) (by decide) rfl ?_
  refine Cr.dup (by decide +kernel : zi 131 662 = some (.dup, 1)) rfl ?_
  refine Cr.iconst (by decide +kernel : zi 131 663 = some (.iconst 0, 1)) (by decide) ?_
  refine Cr.iconst (by decide +kernel : zi 131 664 = some (.iconst (-1), 1)) (by decide) ?_
  refine Cr.iast (c := 102) (N := 4) (by decide +kernel : zi 131 665 = some (.iastore, 1)) (by decide +kernel) (by decide) (by decide) (by decide) ?_
  refine Cr.dup (by decide +kernel : zi 131 666 = some (.dup, 1)) rfl ?_
  refine Cr.iconst (by decide +kernel : zi 131 667 = some (.iconst 1, 1)) (by decide) ?_
  refine Cr.iconst (by decide +kernel : zi 131 668 = some (.iconst (-1), 1)) (by decide) ?_
  refine Cr.iast (c := 102) (N := 4) (by decide +kernel : zi 131 669 = some (.iastore, 1)) (by decide +kernel) (by decide) (by decide) (by decide) ?_
  refine Cr.dup (by decide +kernel : zi 131 670 = some (.dup, 1)) rfl ?_
  refine Cr.iconst (by decide +kernel : zi 131 671 = some (.iconst 2, 1)) (by decide) ?_
  refine Cr.iconst (by decide +kernel : zi 131 672 = some (.iconst (-1), 1)) (by decide) ?_
  refine Cr.iast (c := 102) (N := 4) (by decide +kernel : zi 131 673 = some (.iastore, 1)) (by decide +kernel) (by decide) (by decide) (by decide) ?_
  refine Cr.dup (by decide +kernel : zi 131 674 = some (.dup, 1)) rfl ?_
  refine Cr.iconst (by decide +kernel : zi 131 675 = some (.iconst 3, 1)) (by decide) ?_
  refine Cr.iconst (by decide +kernel : zi 131 676 = some (.iconst (-1), 1)) (by decide) ?_
  refine Cr.iast (c := 102) (N := 4) (by decide +kernel : zi 131 677 = some (.iastore, 1)) (by decide +kernel) (by decide) (by decide) (by decide) ?_
  refine Cr.putR (c := 72) (w := 103) (ci := 8) (k := 52) 52 103 (by decide +kernel : zi 131 678 = some (.putfield 103, 3)) (by decide +kernel) (by decide +kernel) (by decide +kernel) (by decide) (by decide) (Or.inr ⟨by decide +kernel, by decide +kernel⟩) rfl rfl ?_
  refine Cr.aldn (c := 73) (by decide +kernel : zi 131 681 = some (.aload_n 0, 1)) rfl ⟨by decide, by decide⟩ ?_
  refine Cr.iconst (by decide +kernel : zi 131 682 = some (.iconst 4, 1)) (by decide) ?_
  refine Cr.newarr (n2 := 104) (k := 4) (by decide +kernel : zi 131 683 = some (.newarray .int, 2)) (by decide +kernel) (by decide) (by decide) rfl ?_
  refine Cr.putR (c := 72) (w := 104) (ci := 8) (k := 53) 53 104 (by decide +kernel : zi 131 685 = some (.putfield 106, 3)) (by decide +kernel) (by decide +kernel) (by decide +kernel) (by decide) (by decide) (Or.inr ⟨by decide +kernel, by decide +kernel⟩) rfl rfl ?_
  refine Cr.aldn (c := 73) (by decide +kernel : zi 131 688 = some (.aload_n 0, 1)) rfl ⟨by decide, by decide⟩ ?_
  refine Cr.sipush (by decide +kernel : zi 131 689 = some (.sipush 160, 3)) (by decide) ?_
  refine Cr.newarr (n2 := 105) (k := 160) (by decide +kernel : zi 131 692 = some (.newarray .int, 2)) (by decide +kernel) (by decide) (by decide) rfl ?_
  refine Cr.putR (c := 72) (w := 105) (ci := 8) (k := 54) 54 105 (by decide +kernel : zi 131 694 = some (.putfield 109, 3)) (by decide +kernel) (by decide +kernel) (by decide +kernel) (by decide) (by decide) (Or.inr ⟨by decide +kernel, by decide +kernel⟩) rfl rfl ?_
  refine Cr.aldn (c := 73) (by decide +kernel : zi 131 697 = some (.aload_n 0, 1)) rfl ⟨by decide, by decide⟩ ?_
  refine Cr.bipush (by decide +kernel : zi 131 698 = some (.bipush 40, 2)) (by decide) ?_
  refine Cr.newarr (n2 := 106) (k := 40) (by decide +kernel : zi 131 700 = some (.newarray .int, 2)) (by decide +kernel) (by decide) (by decide) rfl ?_
  refine Cr.putR (c := 72) (w := 106) (ci := 8) (k := 55) 55 106 (by decide +kernel : zi 131 702 = some (.putfield 112, 3)) (by decide +kernel) (by decide +kernel) (by decide +kernel) (by decide) (by decide) (Or.inr ⟨by decide +kernel, by decide +kernel⟩) rfl rfl ?_
  exact Cr.retV (by decide +kernel : zi 131 705 = some (.return_, 1)) (by decide +kernel) h
end INI2
