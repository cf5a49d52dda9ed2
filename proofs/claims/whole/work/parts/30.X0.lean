-- 1 X0_become lake
theorem f1_lake_0 {xs : Nat → Int} {L : Nat} {d : Nat}  {s : Pl} {P : Pl → Prop} (h : (0 ≤ (0 : Int) ∧ 0 ≤ (0 : Int) ∧ 0 ≤ (6 : Int) ∧ (0 : Int) + 6 ≤ 6 ∧ (0 : Int) + 6 ≤ 6) ∧ (0 ≤ (0 : Int) ∧ 0 ≤ (0 : Int) ∧ 0 ≤ (6 : Int) ∧ (0 : Int) + 6 ≤ 6 ∧ (0 : Int) + 6 ≤ 6) ∧ (0 ≤ (0 : Int) ∧ 0 ≤ (0 : Int) ∧ 0 ≤ (6 : Int) ∧ (0 : Int) + 6 ≤ 6 ∧ (0 : Int) + 6 ≤ 6) ∧ (0 ≤ (0 : Int) ∧ 0 ≤ (0 : Int) ∧ 0 ≤ (6 : Int) ∧ (0 : Int) + 6 ≤ 6 ∧ (0 : Int) + 6 ≤ 6) ∧ (0 ≤ (0 : Int) ∧ 0 ≤ (0 : Int) ∧ 0 ≤ (6 : Int) ∧ (0 : Int) + 6 ≤ 6 ∧ (0 : Int) + 6 ≤ 6) ∧ (0 ≤ (0 : Int) ∧ 0 ≤ (0 : Int) ∧ 0 ≤ (6 : Int) ∧ (0 : Int) + 6 ≤ 6 ∧ (0 : Int) + 6 ≤ 6) ∧ (0 ≤ (0 : Int) ∧ 0 ≤ (0 : Int) ∧ 0 ≤ (6 : Int) ∧ (0 : Int) + 6 ≤ 6 ∧ (0 : Int) + 6 ≤ 6) ∧ (0 ≤ (0 : Int) ∧ 0 ≤ (0 : Int) ∧ 0 ≤ (16 : Int) ∧ (0 : Int) + 16 ≤ 16 ∧ (0 : Int) + 16 ≤ 16) ∧ P (zcopy (zcopy (zcopy (zcopy (zcopy (zcopy (zcopy (zcopy (zup (zup (zup s 1 0 (s 10 0)) 1 1 ((zup s 1 0 (s 10 0)) 10 1)) 1 2 ((zup (zup s 1 0 (s 10 0)) 1 1 ((zup s 1 0 (s 10 0)) 10 1)) 10 2)) 11 0 2 0 6) 12 0 3 0 6) 13 0 4 0 6) 14 0 5 0 6) 15 0 6 0 6) 16 0 7 0 6) 17 0 8 0 6) 18 0 9 0 16)) : Fr xs L T0 106 d 1 0 [some (rf 2), some (rf 11)] [] s (qv P) := by
  refine Fr.aldn (c := 2) (by decide +kernel : zi 1 0 = some (.aload_n 0, 1)) rfl ⟨by omega, by omega⟩ ?_
  refine Fr.aldn (c := 11) (by decide +kernel : zi 1 1 = some (.aload_n 1, 1)) rfl ⟨by omega, by omega⟩ ?_
  refine Fr.gI (c := 10) (ci := 0) (k := 0) (t := 0) 0 (by decide +kernel : zi 1 2 = some (.getfield 42, 3)) (by decide +kernel) (by decide +kernel) (by decide +kernel) (by decide) rfl ?_
  refine Fr.pI (c := 1) (ci := 0) (k := 0) 0 (by decide +kernel : zi 1 5 = some (.putfield 42, 3)) (by decide +kernel) (by decide +kernel) (by decide +kernel) (by decide) rfl ?_
  refine Fr.aldn (c := 2) (by decide +kernel : zi 1 8 = some (.aload_n 0, 1)) rfl ⟨by omega, by omega⟩ ?_
  refine Fr.aldn (c := 11) (by decide +kernel : zi 1 9 = some (.aload_n 1, 1)) rfl ⟨by omega, by omega⟩ ?_
  refine Fr.gI (c := 10) (ci := 0) (k := 1) (t := 0) 1 (by decide +kernel : zi 1 10 = some (.getfield 46, 3)) (by decide +kernel) (by decide +kernel) (by decide +kernel) (by decide) rfl ?_
  refine Fr.pI (c := 1) (ci := 0) (k := 1) 1 (by decide +kernel : zi 1 13 = some (.putfield 46, 3)) (by decide +kernel) (by decide +kernel) (by decide +kernel) (by decide) rfl ?_
  refine Fr.aldn (c := 2) (by decide +kernel : zi 1 16 = some (.aload_n 0, 1)) rfl ⟨by omega, by omega⟩ ?_
  refine Fr.aldn (c := 11) (by decide +kernel : zi 1 17 = some (.aload_n 1, 1)) rfl ⟨by omega, by omega⟩ ?_
  refine Fr.gI (c := 10) (ci := 0) (k := 2) (t := 0) 2 (by decide +kernel : zi 1 18 = some (.getfield 49, 3)) (by decide +kernel) (by decide +kernel) (by decide +kernel) (by decide) rfl ?_
  refine Fr.pI (c := 1) (ci := 0) (k := 2) 2 (by decide +kernel : zi 1 21 = some (.putfield 49, 3)) (by decide +kernel) (by decide +kernel) (by decide +kernel) (by decide) rfl ?_
  refine Fr.aldn (c := 11) (by decide +kernel : zi 1 24 = some (.aload_n 1, 1)) rfl ⟨by omega, by omega⟩ ?_
  refine Fr.gR (c := 10) (c2 := 12) (ci := 0) (k := 3) 3 (by decide +kernel : zi 1 25 = some (.getfield 9, 3)) (by decide +kernel) (by decide +kernel) (by decide +kernel) (by decide) rfl (fun q => q (10, 3, 12) (by decide +kernel)) ?_
  refine Fr.iconst (by decide +kernel : zi 1 28 = some (.iconst 0, 1)) (by decide) ?_
  refine Fr.aldn (c := 2) (by decide +kernel : zi 1 29 = some (.aload_n 0, 1)) rfl ⟨by omega, by omega⟩ ?_
  refine Fr.gR (c := 1) (c2 := 3) (ci := 0) (k := 3) 3 (by decide +kernel : zi 1 30 = some (.getfield 9, 3)) (by decide +kernel) (by decide +kernel) (by decide +kernel) (by decide) rfl (fun q => q (1, 3, 3) (by decide +kernel)) ?_
  refine Fr.iconst (by decide +kernel : zi 1 33 = some (.iconst 0, 1)) (by decide) ?_
  refine Fr.bipush (by decide +kernel : zi 1 34 = some (.bipush 6, 2)) (by decide) ?_
  obtain ⟨⟨g0, g1, g2, g3, g4⟩, h⟩ := h
  refine Fr.copy (c1 := 11) (c2 := 2) (N1 := 6) (N2 := 6) (by decide +kernel : zi 1 36 = some (.invokestatic 52, 3)) (by decide +kernel) (by decide +kernel) (by decide +kernel) (by decide +kernel) (by decide +kernel) (by decide) (by decide) g0 g1 g2 g3 g4 (Nat.le_of_ble_eq_true rfl) ?_
  refine Fr.aldn (c := 11) (by decide +kernel : zi 1 39 = some (.aload_n 1, 1)) rfl ⟨by omega, by omega⟩ ?_
  refine Fr.gR (c := 10) (c2 := 13) (ci := 0) (k := 4) 4 (by decide +kernel : zi 1 40 = some (.getfield 15, 3)) (by decide +kernel) (by decide +kernel) (by decide +kernel) (by decide) rfl (fun q => q (10, 4, 13) (by decide +kernel)) ?_
  refine Fr.iconst (by decide +kernel : zi 1 43 = some (.iconst 0, 1)) (by decide) ?_
  refine Fr.aldn (c := 2) (by decide +kernel : zi 1 44 = some (.aload_n 0, 1)) rfl ⟨by omega, by omega⟩ ?_
  refine Fr.gR (c := 1) (c2 := 4) (ci := 0) (k := 4) 4 (by decide +kernel : zi 1 45 = some (.getfield 15, 3)) (by decide +kernel) (by decide +kernel) (by decide +kernel) (by decide) rfl (fun q => q (1, 4, 4) (by decide +kernel)) ?_
  refine Fr.iconst (by decide +kernel : zi 1 48 = some (.iconst 0, 1)) (by decide) ?_
  refine Fr.bipush (by decide +kernel : zi 1 49 = some (.bipush 6, 2)) (by decide) ?_
  obtain ⟨⟨g0, g1, g2, g3, g4⟩, h⟩ := h
  refine Fr.copy (c1 := 12) (c2 := 3) (N1 := 6) (N2 := 6) (by decide +kernel : zi 1 51 = some (.invokestatic 52, 3)) (by decide +kernel) (by decide +kernel) (by decide +kernel) (by decide +kernel) (by decide +kernel) (by decide) (by decide) g0 g1 g2 g3 g4 (Nat.le_of_ble_eq_true rfl) ?_
  refine Fr.aldn (c := 11) (by decide +kernel : zi 1 54 = some (.aload_n 1, 1)) rfl ⟨by omega, by omega⟩ ?_
  refine Fr.gR (c := 10) (c2 := 14) (ci := 0) (k := 5) 5 (by decide +kernel : zi 1 55 = some (.getfield 18, 3)) (by decide +kernel) (by decide +kernel) (by decide +kernel) (by decide) rfl (fun q => q (10, 5, 14) (by decide +kernel)) ?_
  refine Fr.iconst (by decide +kernel : zi 1 58 = some (.iconst 0, 1)) (by decide) ?_
  refine Fr.aldn (c := 2) (by decide +kernel : zi 1 59 = some (.aload_n 0, 1)) rfl ⟨by omega, by omega⟩ ?_
  refine Fr.gR (c := 1) (c2 := 5) (ci := 0) (k := 5) 5 (by decide +kernel : zi 1 60 = some (.getfield 18, 3)) (by decide +kernel) (by decide +kernel) (by decide +kernel) (by decide) rfl (fun q => q (1, 5, 5) (by decide +kernel)) ?_
  refine Fr.iconst (by decide +kernel : zi 1 63 = some (.iconst 0, 1)) (by decide) ?_
  refine Fr.bipush (by decide +kernel : zi 1 64 = some (.bipush 6, 2)) (by decide) ?_
  obtain ⟨⟨g0, g1, g2, g3, g4⟩, h⟩ := h
  refine Fr.copy (c1 := 13) (c2 := 4) (N1 := 6) (N2 := 6) (by decide +kernel : zi 1 66 = some (.invokestatic 52, 3)) (by decide +kernel) (by decide +kernel) (by decide +kernel) (by decide +kernel) (by decide +kernel) (by decide) (by decide) g0 g1 g2 g3 g4 (Nat.le_of_ble_eq_true rfl) ?_
  refine Fr.aldn (c := 11) (by decide +kernel : zi 1 69 = some (.aload_n 1, 1)) rfl ⟨by omega, by omega⟩ ?_
  refine Fr.gR (c := 10) (c2 := 15) (ci := 0) (k := 6) 6 (by decide +kernel : zi 1 70 = some (.getfield 21, 3)) (by decide +kernel) (by decide +kernel) (by decide +kernel) (by decide) rfl (fun q => q (10, 6, 15) (by decide +kernel)) ?_
  refine Fr.iconst (by decide +kernel : zi 1 73 = some (.iconst 0, 1)) (by decide) ?_
  refine Fr.aldn (c := 2) (by decide +kernel : zi 1 74 = some (.aload_n 0, 1)) rfl ⟨by omega, by omega⟩ ?_
  refine Fr.gR (c := 1) (c2 := 6) (ci := 0) (k := 6) 6 (by decide +kernel : zi 1 75 = some (.getfield 21, 3)) (by decide +kernel) (by decide +kernel) (by decide +kernel) (by decide) rfl (fun q => q (1, 6, 6) (by decide +kernel)) ?_
  refine Fr.iconst (by decide +kernel : zi 1 78 = some (.iconst 0, 1)) (by decide) ?_
  refine Fr.bipush (by decide +kernel : zi 1 79 = some (.bipush 6, 2)) (by decide) ?_
  obtain ⟨⟨g0, g1, g2, g3, g4⟩, h⟩ := h
  refine Fr.copy (c1 := 14) (c2 := 5) (N1 := 6) (N2 := 6) (by decide +kernel : zi 1 81 = some (.invokestatic 52, 3)) (by decide +kernel) (by decide +kernel) (by decide +kernel) (by decide +kernel) (by decide +kernel) (by decide) (by decide) g0 g1 g2 g3 g4 (Nat.le_of_ble_eq_true rfl) ?_
  refine Fr.aldn (c := 11) (by decide +kernel : zi 1 84 = some (.aload_n 1, 1)) rfl ⟨by omega, by omega⟩ ?_
  refine Fr.gR (c := 10) (c2 := 16) (ci := 0) (k := 7) 7 (by decide +kernel : zi 1 85 = some (.getfield 24, 3)) (by decide +kernel) (by decide +kernel) (by decide +kernel) (by decide) rfl (fun q => q (10, 7, 16) (by decide +kernel)) ?_
  refine Fr.iconst (by decide +kernel : zi 1 88 = some (.iconst 0, 1)) (by decide) ?_
  refine Fr.aldn (c := 2) (by decide +kernel : zi 1 89 = some (.aload_n 0, 1)) rfl ⟨by omega, by omega⟩ ?_
  refine Fr.gR (c := 1) (c2 := 7) (ci := 0) (k := 7) 7 (by decide +kernel : zi 1 90 = some (.getfield 24, 3)) (by decide +kernel) (by decide +kernel) (by decide +kernel) (by decide) rfl (fun q => q (1, 7, 7) (by decide +kernel)) ?_
  refine Fr.iconst (by decide +kernel : zi 1 93 = some (.iconst 0, 1)) (by decide) ?_
  refine Fr.bipush (by decide +kernel : zi 1 94 = some (.bipush 6, 2)) (by decide) ?_
  obtain ⟨⟨g0, g1, g2, g3, g4⟩, h⟩ := h
  refine Fr.copy (c1 := 15) (c2 := 6) (N1 := 6) (N2 := 6) (by decide +kernel : zi 1 96 = some (.invokestatic 52, 3)) (by decide +kernel) (by decide +kernel) (by decide +kernel) (by decide +kernel) (by decide +kernel) (by decide) (by decide) g0 g1 g2 g3 g4 (Nat.le_of_ble_eq_true rfl) ?_
  refine Fr.aldn (c := 11) (by decide +kernel : zi 1 99 = some (.aload_n 1, 1)) rfl ⟨by omega, by omega⟩ ?_
  refine Fr.gR (c := 10) (c2 := 17) (ci := 0) (k := 8) 8 (by decide +kernel : zi 1 100 = some (.getfield 27, 3)) (by decide +kernel) (by decide +kernel) (by decide +kernel) (by decide) rfl (fun q => q (10, 8, 17) (by decide +kernel)) ?_
  refine Fr.iconst (by decide +kernel : zi 1 103 = some (.iconst 0, 1)) (by decide) ?_
  refine Fr.aldn (c := 2) (by decide +kernel : zi 1 104 = some (.aload_n 0, 1)) rfl ⟨by omega, by omega⟩ ?_
  refine Fr.gR (c := 1) (c2 := 8) (ci := 0) (k := 8) 8 (by decide +kernel : zi 1 105 = some (.getfield 27, 3)) (by decide +kernel) (by decide +kernel) (by decide +kernel) (by decide) rfl (fun q => q (1, 8, 8) (by decide +kernel)) ?_
  refine Fr.iconst (by decide +kernel : zi 1 108 = some (.iconst 0, 1)) (by decide) ?_
  refine Fr.bipush (by decide +kernel : zi 1 109 = some (.bipush 6, 2)) (by decide) ?_
  obtain ⟨⟨g0, g1, g2, g3, g4⟩, h⟩ := h
  refine Fr.copy (c1 := 16) (c2 := 7) (N1 := 6) (N2 := 6) (by decide +kernel : zi 1 111 = some (.invokestatic 52, 3)) (by decide +kernel) (by decide +kernel) (by decide +kernel) (by decide +kernel) (by decide +kernel) (by decide) (by decide) g0 g1 g2 g3 g4 (Nat.le_of_ble_eq_true rfl) ?_
  refine Fr.aldn (c := 11) (by decide +kernel : zi 1 114 = some (.aload_n 1, 1)) rfl ⟨by omega, by omega⟩ ?_
  refine Fr.gR (c := 10) (c2 := 18) (ci := 0) (k := 9) 9 (by decide +kernel : zi 1 115 = some (.getfield 30, 3)) (by decide +kernel) (by decide +kernel) (by decide +kernel) (by decide) rfl (fun q => q (10, 9, 18) (by decide +kernel)) ?_
  refine Fr.iconst (by decide +kernel : zi 1 118 = some (.iconst 0, 1)) (by decide) ?_
  refine Fr.aldn (c := 2) (by decide +kernel : zi 1 119 = some (.aload_n 0, 1)) rfl ⟨by omega, by omega⟩ ?_
  refine Fr.gR (c := 1) (c2 := 9) (ci := 0) (k := 9) 9 (by decide +kernel : zi 1 120 = some (.getfield 30, 3)) (by decide +kernel) (by decide +kernel) (by decide +kernel) (by decide) rfl (fun q => q (1, 9, 9) (by decide +kernel)) ?_
  refine Fr.iconst (by decide +kernel : zi 1 123 = some (.iconst 0, 1)) (by decide) ?_
  refine Fr.bipush (by decide +kernel : zi 1 124 = some (.bipush 6, 2)) (by decide) ?_
  obtain ⟨⟨g0, g1, g2, g3, g4⟩, h⟩ := h
  refine Fr.copy (c1 := 17) (c2 := 8) (N1 := 6) (N2 := 6) (by decide +kernel : zi 1 126 = some (.invokestatic 52, 3)) (by decide +kernel) (by decide +kernel) (by decide +kernel) (by decide +kernel) (by decide +kernel) (by decide) (by decide) g0 g1 g2 g3 g4 (Nat.le_of_ble_eq_true rfl) ?_
  refine Fr.aldn (c := 11) (by decide +kernel : zi 1 129 = some (.aload_n 1, 1)) rfl ⟨by omega, by omega⟩ ?_
  refine Fr.gR (c := 10) (c2 := 19) (ci := 0) (k := 10) 10 (by decide +kernel : zi 1 130 = some (.getfield 33, 3)) (by decide +kernel) (by decide +kernel) (by decide +kernel) (by decide) rfl (fun q => q (10, 10, 19) (by decide +kernel)) ?_
  refine Fr.iconst (by decide +kernel : zi 1 133 = some (.iconst 0, 1)) (by decide) ?_
  refine Fr.aldn (c := 2) (by decide +kernel : zi 1 134 = some (.aload_n 0, 1)) rfl ⟨by omega, by omega⟩ ?_
  refine Fr.gR (c := 1) (c2 := 10) (ci := 0) (k := 10) 10 (by decide +kernel : zi 1 135 = some (.getfield 33, 3)) (by decide +kernel) (by decide +kernel) (by decide +kernel) (by decide) rfl (fun q => q (1, 10, 10) (by decide +kernel)) ?_
  refine Fr.iconst (by decide +kernel : zi 1 138 = some (.iconst 0, 1)) (by decide) ?_
  refine Fr.bipush (by decide +kernel : zi 1 139 = some (.bipush 16, 2)) (by decide) ?_
  obtain ⟨⟨g0, g1, g2, g3, g4⟩, h⟩ := h
  refine Fr.copy (c1 := 18) (c2 := 9) (N1 := 16) (N2 := 16) (by decide +kernel : zi 1 141 = some (.invokestatic 52, 3)) (by decide +kernel) (by decide +kernel) (by decide +kernel) (by decide +kernel) (by decide +kernel) (by decide) (by decide) g0 g1 g2 g3 g4 (Nat.le_of_ble_eq_true rfl) ?_
  exact Fr.retV (by decide +kernel : zi 1 144 = some (.return_, 1)) (by decide +kernel) h
theorem e1_lake {xs : Nat → Int} {L : Nat} {d : Nat}  {s : Pl} {Q : Option AV → Pl → Prop} (hd : 1 ≤ d) (k : Fr xs L T0 106 (d - 1) 1 0 [some (rf 2), some (rf 11)] [] s Q) : Ev xs L T0 106 d 1 [rf 2, rf 11] s Q := Ev.of (by decide) _ rfl hd k
-- 1 X0_become kept
theorem f1_kept_0 {xs : Nat → Int} {L : Nat} {d : Nat}  {s : Pl} {P : Pl → Prop} (h : (0 ≤ (0 : Int) ∧ 0 ≤ (0 : Int) ∧ 0 ≤ (6 : Int) ∧ (0 : Int) + 6 ≤ 6 ∧ (0 : Int) + 6 ≤ 6) ∧ (0 ≤ (0 : Int) ∧ 0 ≤ (0 : Int) ∧ 0 ≤ (6 : Int) ∧ (0 : Int) + 6 ≤ 6 ∧ (0 : Int) + 6 ≤ 6) ∧ (0 ≤ (0 : Int) ∧ 0 ≤ (0 : Int) ∧ 0 ≤ (6 : Int) ∧ (0 : Int) + 6 ≤ 6 ∧ (0 : Int) + 6 ≤ 6) ∧ (0 ≤ (0 : Int) ∧ 0 ≤ (0 : Int) ∧ 0 ≤ (6 : Int) ∧ (0 : Int) + 6 ≤ 6 ∧ (0 : Int) + 6 ≤ 6) ∧ (0 ≤ (0 : Int) ∧ 0 ≤ (0 : Int) ∧ 0 ≤ (6 : Int) ∧ (0 : Int) + 6 ≤ 6 ∧ (0 : Int) + 6 ≤ 6) ∧ (0 ≤ (0 : Int) ∧ 0 ≤ (0 : Int) ∧ 0 ≤ (6 : Int) ∧ (0 : Int) + 6 ≤ 6 ∧ (0 : Int) + 6 ≤ 6) ∧ (0 ≤ (0 : Int) ∧ 0 ≤ (0 : Int) ∧ 0 ≤ (6 : Int) ∧ (0 : Int) + 6 ≤ 6 ∧ (0 : Int) + 6 ≤ 6) ∧ (0 ≤ (0 : Int) ∧ 0 ≤ (0 : Int) ∧ 0 ≤ (16 : Int) ∧ (0 : Int) + 16 ≤ 16 ∧ (0 : Int) + 16 ≤ 16) ∧ P (zcopy (zcopy (zcopy (zcopy (zcopy (zcopy (zcopy (zcopy (zup (zup (zup s 10 0 (s 1 0)) 10 1 ((zup s 10 0 (s 1 0)) 1 1)) 10 2 ((zup (zup s 10 0 (s 1 0)) 10 1 ((zup s 10 0 (s 1 0)) 1 1)) 1 2)) 2 0 11 0 6) 3 0 12 0 6) 4 0 13 0 6) 5 0 14 0 6) 6 0 15 0 6) 7 0 16 0 6) 8 0 17 0 6) 9 0 18 0 16)) : Fr xs L T0 106 d 1 0 [some (rf 11), some (rf 2)] [] s (qv P) := by
  refine Fr.aldn (c := 11) (by decide +kernel : zi 1 0 = some (.aload_n 0, 1)) rfl ⟨by omega, by omega⟩ ?_
  refine Fr.aldn (c := 2) (by decide +kernel : zi 1 1 = some (.aload_n 1, 1)) rfl ⟨by omega, by omega⟩ ?_
  refine Fr.gI (c := 1) (ci := 0) (k := 0) (t := 0) 0 (by decide +kernel : zi 1 2 = some (.getfield 42, 3)) (by decide +kernel) (by decide +kernel) (by decide +kernel) (by decide) rfl ?_
  refine Fr.pI (c := 10) (ci := 0) (k := 0) 0 (by decide +kernel : zi 1 5 = some (.putfield 42, 3)) (by decide +kernel) (by decide +kernel) (by decide +kernel) (by decide) rfl ?_
  refine Fr.aldn (c := 11) (by decide +kernel : zi 1 8 = some (.aload_n 0, 1)) rfl ⟨by omega, by omega⟩ ?_
  refine Fr.aldn (c := 2) (by decide +kernel : zi 1 9 = some (.aload_n 1, 1)) rfl ⟨by omega, by omega⟩ ?_
  refine Fr.gI (c := 1) (ci := 0) (k := 1) (t := 0) 1 (by decide +kernel : zi 1 10 = some (.getfield 46, 3)) (by decide +kernel) (by decide +kernel) (by decide +kernel) (by decide) rfl ?_
  refine Fr.pI (c := 10) (ci := 0) (k := 1) 1 (by decide +kernel : zi 1 13 = some (.putfield 46, 3)) (by decide +kernel) (by decide +kernel) (by decide +kernel) (by decide) rfl ?_
  refine Fr.aldn (c := 11) (by decide +kernel : zi 1 16 = some (.aload_n 0, 1)) rfl ⟨by omega, by omega⟩ ?_
  refine Fr.aldn (c := 2) (by decide +kernel : zi 1 17 = some (.aload_n 1, 1)) rfl ⟨by omega, by omega⟩ ?_
  refine Fr.gI (c := 1) (ci := 0) (k := 2) (t := 0) 2 (by decide +kernel : zi 1 18 = some (.getfield 49, 3)) (by decide +kernel) (by decide +kernel) (by decide +kernel) (by decide) rfl ?_
  refine Fr.pI (c := 10) (ci := 0) (k := 2) 2 (by decide +kernel : zi 1 21 = some (.putfield 49, 3)) (by decide +kernel) (by decide +kernel) (by decide +kernel) (by decide) rfl ?_
  refine Fr.aldn (c := 2) (by decide +kernel : zi 1 24 = some (.aload_n 1, 1)) rfl ⟨by omega, by omega⟩ ?_
  refine Fr.gR (c := 1) (c2 := 3) (ci := 0) (k := 3) 3 (by decide +kernel : zi 1 25 = some (.getfield 9, 3)) (by decide +kernel) (by decide +kernel) (by decide +kernel) (by decide) rfl (fun q => q (1, 3, 3) (by decide +kernel)) ?_
  refine Fr.iconst (by decide +kernel : zi 1 28 = some (.iconst 0, 1)) (by decide) ?_
  refine Fr.aldn (c := 11) (by decide +kernel : zi 1 29 = some (.aload_n 0, 1)) rfl ⟨by omega, by omega⟩ ?_
  refine Fr.gR (c := 10) (c2 := 12) (ci := 0) (k := 3) 3 (by decide +kernel : zi 1 30 = some (.getfield 9, 3)) (by decide +kernel) (by decide +kernel) (by decide +kernel) (by decide) rfl (fun q => q (10, 3, 12) (by decide +kernel)) ?_
  refine Fr.iconst (by decide +kernel : zi 1 33 = some (.iconst 0, 1)) (by decide) ?_
  refine Fr.bipush (by decide +kernel : zi 1 34 = some (.bipush 6, 2)) (by decide) ?_
  obtain ⟨⟨g0, g1, g2, g3, g4⟩, h⟩ := h
  refine Fr.copy (c1 := 2) (c2 := 11) (N1 := 6) (N2 := 6) (by decide +kernel : zi 1 36 = some (.invokestatic 52, 3)) (by decide +kernel) (by decide +kernel) (by decide +kernel) (by decide +kernel) (by decide +kernel) (by decide) (by decide) g0 g1 g2 g3 g4 (Nat.le_of_ble_eq_true rfl) ?_
  refine Fr.aldn (c := 2) (by decide +kernel : zi 1 39 = some (.aload_n 1, 1)) rfl ⟨by omega, by omega⟩ ?_
  refine Fr.gR (c := 1) (c2 := 4) (ci := 0) (k := 4) 4 (by decide +kernel : zi 1 40 = some (.getfield 15, 3)) (by decide +kernel) (by decide +kernel) (by decide +kernel) (by decide) rfl (fun q => q (1, 4, 4) (by decide +kernel)) ?_
  refine Fr.iconst (by decide +kernel : zi 1 43 = some (.iconst 0, 1)) (by decide) ?_
  refine Fr.aldn (c := 11) (by decide +kernel : zi 1 44 = some (.aload_n 0, 1)) rfl ⟨by omega, by omega⟩ ?_
  refine Fr.gR (c := 10) (c2 := 13) (ci := 0) (k := 4) 4 (by decide +kernel : zi 1 45 = some (.getfield 15, 3)) (by decide +kernel) (by decide +kernel) (by decide +kernel) (by decide) rfl (fun q => q (10, 4, 13) (by decide +kernel)) ?_
  refine Fr.iconst (by decide +kernel : zi 1 48 = some (.iconst 0, 1)) (by decide) ?_
  refine Fr.bipush (by decide +kernel : zi 1 49 = some (.bipush 6, 2)) (by decide) ?_
  obtain ⟨⟨g0, g1, g2, g3, g4⟩, h⟩ := h
  refine Fr.copy (c1 := 3) (c2 := 12) (N1 := 6) (N2 := 6) (by decide +kernel : zi 1 51 = some (.invokestatic 52, 3)) (by decide +kernel) (by decide +kernel) (by decide +kernel) (by decide +kernel) (by decide +kernel) (by decide) (by decide) g0 g1 g2 g3 g4 (Nat.le_of_ble_eq_true rfl) ?_
  refine Fr.aldn (c := 2) (by decide +kernel : zi 1 54 = some (.aload_n 1, 1)) rfl ⟨by omega, by omega⟩ ?_
  refine Fr.gR (c := 1) (c2 := 5) (ci := 0) (k := 5) 5 (by decide +kernel : zi 1 55 = some (.getfield 18, 3)) (by decide +kernel) (by decide +kernel) (by decide +kernel) (by decide) rfl (fun q => q (1, 5, 5) (by decide +kernel)) ?_
  refine Fr.iconst (by decide +kernel : zi 1 58 = some (.iconst 0, 1)) (by decide) ?_
  refine Fr.aldn (c := 11) (by decide +kernel : zi 1 59 = some (.aload_n 0, 1)) rfl ⟨by omega, by omega⟩ ?_
  refine Fr.gR (c := 10) (c2 := 14) (ci := 0) (k := 5) 5 (by decide +kernel : zi 1 60 = some (.getfield 18, 3)) (by decide +kernel) (by decide +kernel) (by decide +kernel) (by decide) rfl (fun q => q (10, 5, 14) (by decide +kernel)) ?_
  refine Fr.iconst (by decide +kernel : zi 1 63 = some (.iconst 0, 1)) (by decide) ?_
  refine Fr.bipush (by decide +kernel : zi 1 64 = some (.bipush 6, 2)) (by decide) ?_
  obtain ⟨⟨g0, g1, g2, g3, g4⟩, h⟩ := h
  refine Fr.copy (c1 := 4) (c2 := 13) (N1 := 6) (N2 := 6) (by decide +kernel : zi 1 66 = some (.invokestatic 52, 3)) (by decide +kernel) (by decide +kernel) (by decide +kernel) (by decide +kernel) (by decide +kernel) (by decide) (by decide) g0 g1 g2 g3 g4 (Nat.le_of_ble_eq_true rfl) ?_
  refine Fr.aldn (c := 2) (by decide +kernel : zi 1 69 = some (.aload_n 1, 1)) rfl ⟨by omega, by omega⟩ ?_
  refine Fr.gR (c := 1) (c2 := 6) (ci := 0) (k := 6) 6 (by decide +kernel : zi 1 70 = some (.getfield 21, 3)) (by decide +kernel) (by decide +kernel) (by decide +kernel) (by decide) rfl (fun q => q (1, 6, 6) (by decide +kernel)) ?_
  refine Fr.iconst (by decide +kernel : zi 1 73 = some (.iconst 0, 1)) (by decide) ?_
  refine Fr.aldn (c := 11) (by decide +kernel : zi 1 74 = some (.aload_n 0, 1)) rfl ⟨by omega, by omega⟩ ?_
  refine Fr.gR (c := 10) (c2 := 15) (ci := 0) (k := 6) 6 (by decide +kernel : zi 1 75 = some (.getfield 21, 3)) (by decide +kernel) (by decide +kernel) (by decide +kernel) (by decide) rfl (fun q => q (10, 6, 15) (by decide +kernel)) ?_
  refine Fr.iconst (by decide +kernel : zi 1 78 = some (.iconst 0, 1)) (by decide) ?_
  refine Fr.bipush (by decide +kernel : zi 1 79 = some (.bipush 6, 2)) (by decide) ?_
  obtain ⟨⟨g0, g1, g2, g3, g4⟩, h⟩ := h
  refine Fr.copy (c1 := 5) (c2 := 14) (N1 := 6) (N2 := 6) (by decide +kernel : zi 1 81 = some (.invokestatic 52, 3)) (by decide +kernel) (by decide +kernel) (by decide +kernel) (by decide +kernel) (by decide +kernel) (by decide) (by decide) g0 g1 g2 g3 g4 (Nat.le_of_ble_eq_true rfl) ?_
  refine Fr.aldn (c := 2) (by decide +kernel : zi 1 84 = some (.aload_n 1, 1)) rfl ⟨by omega, by omega⟩ ?_
  refine Fr.gR (c := 1) (c2 := 7) (ci := 0) (k := 7) 7 (by decide +kernel : zi 1 85 = some (.getfield 24, 3)) (by decide +kernel) (by decide +kernel) (by decide +kernel) (by decide) rfl (fun q => q (1, 7, 7) (by decide +kernel)) ?_
  refine Fr.iconst (by decide +kernel : zi 1 88 = some (.iconst 0, 1)) (by decide) ?_
  refine Fr.aldn (c := 11) (by decide +kernel : zi 1 89 = some (.aload_n 0, 1)) rfl ⟨by omega, by omega⟩ ?_
  refine Fr.gR (c := 10) (c2 := 16) (ci := 0) (k := 7) 7 (by decide +kernel : zi 1 90 = some (.getfield 24, 3)) (by decide +kernel) (by decide +kernel) (by decide +kernel) (by decide) rfl (fun q => q (10, 7, 16) (by decide +kernel)) ?_
  refine Fr.iconst (by decide +kernel : zi 1 93 = some (.iconst 0, 1)) (by decide) ?_
  refine Fr.bipush (by decide +kernel : zi 1 94 = some (.bipush 6, 2)) (by decide) ?_
  obtain ⟨⟨g0, g1, g2, g3, g4⟩, h⟩ := h
  refine Fr.copy (c1 := 6) (c2 := 15) (N1 := 6) (N2 := 6) (by decide +kernel : zi 1 96 = some (.invokestatic 52, 3)) (by decide +kernel) (by decide +kernel) (by decide +kernel) (by decide +kernel) (by decide +kernel) (by decide) (by decide) g0 g1 g2 g3 g4 (Nat.le_of_ble_eq_true rfl) ?_
  refine Fr.aldn (c := 2) (by decide +kernel : zi 1 99 = some (.aload_n 1, 1)) rfl ⟨by omega, by omega⟩ ?_
  refine Fr.gR (c := 1) (c2 := 8) (ci := 0) (k := 8) 8 (by decide +kernel : zi 1 100 = some (.getfield 27, 3)) (by decide +kernel) (by decide +kernel) (by decide +kernel) (by decide) rfl (fun q => q (1, 8, 8) (by decide +kernel)) ?_
  refine Fr.iconst (by decide +kernel : zi 1 103 = some (.iconst 0, 1)) (by decide) ?_
  refine Fr.aldn (c := 11) (by decide +kernel : zi 1 104 = some (.aload_n 0, 1)) rfl ⟨by omega, by omega⟩ ?_
  refine Fr.gR (c := 10) (c2 := 17) (ci := 0) (k := 8) 8 (by decide +kernel : zi 1 105 = some (.getfield 27, 3)) (by decide +kernel) (by decide +kernel) (by decide +kernel) (by decide) rfl (fun q => q (10, 8, 17) (by decide +kernel)) ?_
  refine Fr.iconst (by decide +kernel : zi 1 108 = some (.iconst 0, 1)) (by decide) ?_
  refine Fr.bipush (by decide +kernel : zi 1 109 = some (.bipush 6, 2)) (by decide) ?_
  obtain ⟨⟨g0, g1, g2, g3, g4⟩, h⟩ := h
  refine Fr.copy (c1 := 7) (c2 := 16) (N1 := 6) (N2 := 6) (by decide +kernel : zi 1 111 = some (.invokestatic 52, 3)) (by decide +kernel) (by decide +kernel) (by decide +kernel) (by decide +kernel) (by decide +kernel) (by decide) (by decide) g0 g1 g2 g3 g4 (Nat.le_of_ble_eq_true rfl) ?_
  refine Fr.aldn (c := 2) (by decide +kernel : zi 1 114 = some (.aload_n 1, 1)) rfl ⟨by omega, by omega⟩ ?_
  refine Fr.gR (c := 1) (c2 := 9) (ci := 0) (k := 9) 9 (by decide +kernel : zi 1 115 = some (.getfield 30, 3)) (by decide +kernel) (by decide +kernel) (by decide +kernel) (by decide) rfl (fun q => q (1, 9, 9) (by decide +kernel)) ?_
  refine Fr.iconst (by decide +kernel : zi 1 118 = some (.iconst 0, 1)) (by decide) ?_
  refine Fr.aldn (c := 11) (by decide +kernel : zi 1 119 = some (.aload_n 0, 1)) rfl ⟨by omega, by omega⟩ ?_
  refine Fr.gR (c := 10) (c2 := 18) (ci := 0) (k := 9) 9 (by decide +kernel : zi 1 120 = some (.getfield 30, 3)) (by decide +kernel) (by decide +kernel) (by decide +kernel) (by decide) rfl (fun q => q (10, 9, 18) (by decide +kernel)) ?_
  refine Fr.iconst (by decide +kernel : zi 1 123 = some (.iconst 0, 1)) (by decide) ?_
  refine Fr.bipush (by decide +kernel : zi 1 124 = some (.bipush 6, 2)) (by decide) ?_
  obtain ⟨⟨g0, g1, g2, g3, g4⟩, h⟩ := h
  refine Fr.copy (c1 := 8) (c2 := 17) (N1 := 6) (N2 := 6) (by decide +kernel : zi 1 126 = some (.invokestatic 52, 3)) (by decide +kernel) (by decide +kernel) (by decide +kernel) (by decide +kernel) (by decide +kernel) (by decide) (by decide) g0 g1 g2 g3 g4 (Nat.le_of_ble_eq_true rfl) ?_
  refine Fr.aldn (c := 2) (by decide +kernel : zi 1 129 = some (.aload_n 1, 1)) rfl ⟨by omega, by omega⟩ ?_
  refine Fr.gR (c := 1) (c2 := 10) (ci := 0) (k := 10) 10 (by decide +kernel : zi 1 130 = some (.getfield 33, 3)) (by decide +kernel) (by decide +kernel) (by decide +kernel) (by decide) rfl (fun q => q (1, 10, 10) (by decide +kernel)) ?_
  refine Fr.iconst (by decide +kernel : zi 1 133 = some (.iconst 0, 1)) (by decide) ?_
  refine Fr.aldn (c := 11) (by decide +kernel : zi 1 134 = some (.aload_n 0, 1)) rfl ⟨by omega, by omega⟩ ?_
  refine Fr.gR (c := 10) (c2 := 19) (ci := 0) (k := 10) 10 (by decide +kernel : zi 1 135 = some (.getfield 33, 3)) (by decide +kernel) (by decide +kernel) (by decide +kernel) (by decide) rfl (fun q => q (10, 10, 19) (by decide +kernel)) ?_
  refine Fr.iconst (by decide +kernel : zi 1 138 = some (.iconst 0, 1)) (by decide) ?_
  refine Fr.bipush (by decide +kernel : zi 1 139 = some (.bipush 16, 2)) (by decide) ?_
  obtain ⟨⟨g0, g1, g2, g3, g4⟩, h⟩ := h
  refine Fr.copy (c1 := 9) (c2 := 18) (N1 := 16) (N2 := 16) (by decide +kernel : zi 1 141 = some (.invokestatic 52, 3)) (by decide +kernel) (by decide +kernel) (by decide +kernel) (by decide +kernel) (by decide +kernel) (by decide) (by decide) g0 g1 g2 g3 g4 (Nat.le_of_ble_eq_true rfl) ?_
  exact Fr.retV (by decide +kernel : zi 1 144 = some (.return_, 1)) (by decide +kernel) h
theorem e1_kept {xs : Nat → Int} {L : Nat} {d : Nat}  {s : Pl} {Q : Option AV → Pl → Prop} (hd : 1 ≤ d) (k : Fr xs L T0 106 (d - 1) 1 0 [some (rf 11), some (rf 2)] [] s Q) : Ev xs L T0 106 d 1 [rf 11, rf 2] s Q := Ev.of (by decide) _ rfl hd k
-- 2 X0_has
theorem f2_0 {xs : Nat → Int} {L : Nat} {d : Nat} {v1 : Int} {s : Pl} {P : Int → Pl → Prop} (h : ((v1 < 0 → P 0 s) ∧ (¬ (v1 < 0) → ((s 1 1 ≤ v1 → P 0 s) ∧ (¬ (s 1 1 ≤ v1) → ((6 ≤ v1 → P 0 s) ∧ (¬ (6 ≤ v1) → P 1 s))))))) : Fr xs L T0 106 d 2 0 [some (rf 2), some (it v1)] [] s (qi P) := by
  refine Fr.ildn (by decide +kernel : zi 2 0 = some (.iload_n 1, 1)) rfl ?_
  refine Fr.if0 (q := 22) (by decide +kernel : zi 2 1 = some (.ifCond .lt 21, 3)) (by decide +kernel) (fun g9 => ?_) (fun g9 => ?_)
  · have h := h.1 g9
    refine Fr.iconst (by decide +kernel : zi 2 22 = some (.iconst 0, 1)) (by decide) ?_
    exact Fr.retZ (by decide +kernel : zi 2 23 = some (.ireturn, 1)) (by decide +kernel) (by decide) h
  · have h := h.2 g9
    refine Fr.ildn (by decide +kernel : zi 2 4 = some (.iload_n 1, 1)) rfl ?_
    refine Fr.aldn (c := 2) (by decide +kernel : zi 2 5 = some (.aload_n 0, 1)) rfl ⟨by omega, by omega⟩ ?_
    refine Fr.gI (c := 1) (ci := 0) (k := 1) (t := 0) 1 (by decide +kernel : zi 2 6 = some (.getfield 46, 3)) (by decide +kernel) (by decide +kernel) (by decide +kernel) (by decide) rfl ?_
    refine Fr.if2 (q := 22) (by decide +kernel : zi 2 9 = some (.if_icmp .ge 13, 3)) (by decide +kernel) (fun g9 => ?_) (fun g9 => ?_)
    · have h := h.1 g9
      refine Fr.iconst (by decide +kernel : zi 2 22 = some (.iconst 0, 1)) (by decide) ?_
      exact Fr.retZ (by decide +kernel : zi 2 23 = some (.ireturn, 1)) (by decide +kernel) (by decide) h
    · have h := h.2 g9
      refine Fr.ildn (by decide +kernel : zi 2 12 = some (.iload_n 1, 1)) rfl ?_
      refine Fr.bipush (by decide +kernel : zi 2 13 = some (.bipush 6, 2)) (by decide) ?_
      refine Fr.if2 (q := 22) (by decide +kernel : zi 2 15 = some (.if_icmp .ge 7, 3)) (by decide +kernel) (fun g9 => ?_) (fun g9 => ?_)
      · have h := h.1 g9
        refine Fr.iconst (by decide +kernel : zi 2 22 = some (.iconst 0, 1)) (by decide) ?_
        exact Fr.retZ (by decide +kernel : zi 2 23 = some (.ireturn, 1)) (by decide +kernel) (by decide) h
      · have h := h.2 g9
        refine Fr.iconst (by decide +kernel : zi 2 18 = some (.iconst 1, 1)) (by decide) ?_
        refine Fr.goto (q := 23) (by decide +kernel : zi 2 19 = some (.goto 4, 3)) (by decide +kernel) ?_
        exact Fr.retZ (by decide +kernel : zi 2 23 = some (.ireturn, 1)) (by decide +kernel) (by decide) h
theorem e2 {xs : Nat → Int} {L : Nat} {d : Nat} {v1 : Int} {s : Pl} {Q : Option AV → Pl → Prop} (hd : 1 ≤ d) (k : Fr xs L T0 106 (d - 1) 2 0 [some (rf 2), some (it v1)] [] s Q) : Ev xs L T0 106 d 2 [rf 2, it v1] s Q := Ev.of (by decide) _ rfl hd k
-- 3 X0_add
theorem f3_0 {xs : Nat → Int} {L : Nat} {d : Nat} {v1 : Int} {v2 : Int} {v3 : Int} {v4 : Int} {s : Pl} {P : Pl → Prop} (h : ((s 1 1 < 0 → P s) ∧ (¬ (s 1 1 < 0) → ((s 1 1 < 6 → (0 ≤ s 1 1 ∧ s 1 1 < 6) ∧ (0 ≤ s 1 1 ∧ s 1 1 < 6) ∧ (0 ≤ s 1 1 ∧ s 1 1 < 6) ∧ (0 ≤ s 1 1 ∧ s 1 1 < 6) ∧ (0 ≤ s 1 1 ∧ s 1 1 < 6) ∧ (0 ≤ s 1 1 ∧ s 1 1 < 6) ∧ (0 ≤ s 1 1 ∧ s 1 1 < 6) ∧ P (zup (zup (zup (zup (zup (zup (zup (zup s 1 1 (zw ((s 1 1) + 1))) 3 (s 1 1) v1) 2 (s 1 1) (zdiv v2 10)) 4 (s 1 1) (zrem v2 10)) 5 (s 1 1) (zdiv v3 100)) 6 (s 1 1) (zrem v3 100)) 7 (s 1 1) v4) 8 (s 1 1) 0)) ∧ (¬ (s 1 1 < 6) → P s))))) : Fr xs L T0 106 d 3 0 [some (rf 2), some (it v1), some (it v2), some (it v3), some (it v4), none] [] s (qv P) := by
  refine Fr.aldn (c := 2) (by decide +kernel : zi 3 0 = some (.aload_n 0, 1)) rfl ⟨by omega, by omega⟩ ?_
  refine Fr.gI (c := 1) (ci := 0) (k := 1) (t := 0) 1 (by decide +kernel : zi 3 1 = some (.getfield 46, 3)) (by decide +kernel) (by decide +kernel) (by decide +kernel) (by decide) rfl ?_
  refine Fr.ist (lv2 := [some (rf 2), some (it v1), some (it v2), some (it v3), some (it v4), some (it (s 1 1))]) (by decide +kernel : zi 3 4 = some (.istore 5, 2)) (Nat.le_of_ble_eq_true rfl) rfl ?_
  refine Fr.ild (by decide +kernel : zi 3 6 = some (.iload 5, 2)) rfl ?_
  refine Fr.if0 (q := 18) (by decide +kernel : zi 3 8 = some (.ifCond .lt 10, 3)) (by decide +kernel) (fun g9 => ?_) (fun g9 => ?_)
  · have h := h.1 g9
    exact Fr.retV (by decide +kernel : zi 3 18 = some (.return_, 1)) (by decide +kernel) h
  · have h := h.2 g9
    refine Fr.ild (by decide +kernel : zi 3 11 = some (.iload 5, 2)) rfl ?_
    refine Fr.bipush (by decide +kernel : zi 3 13 = some (.bipush 6, 2)) (by decide) ?_
    refine Fr.if2 (q := 19) (by decide +kernel : zi 3 15 = some (.if_icmp .lt 4, 3)) (by decide +kernel) (fun g9 => ?_) (fun g9 => ?_)
    · have h := h.1 g9
      refine Fr.aldn (c := 2) (by decide +kernel : zi 3 19 = some (.aload_n 0, 1)) rfl ⟨by omega, by omega⟩ ?_
      refine Fr.dup (by decide +kernel : zi 3 20 = some (.dup, 1)) rfl ?_
      refine Fr.gI (c := 1) (ci := 0) (k := 1) (t := 0) 1 (by decide +kernel : zi 3 21 = some (.getfield 46, 3)) (by decide +kernel) (by decide +kernel) (by decide +kernel) (by decide) rfl ?_
      refine Fr.iconst (by decide +kernel : zi 3 24 = some (.iconst 1, 1)) (by decide) ?_
      refine Fr.iadd (by decide +kernel : zi 3 25 = some (.iadd, 1)) ?_
      refine Fr.pI (c := 1) (ci := 0) (k := 1) 1 (by decide +kernel : zi 3 26 = some (.putfield 46, 3)) (by decide +kernel) (by decide +kernel) (by decide +kernel) (by decide) rfl ?_
      refine Fr.aldn (c := 2) (by decide +kernel : zi 3 29 = some (.aload_n 0, 1)) rfl ⟨by omega, by omega⟩ ?_
      refine Fr.gR (c := 1) (c2 := 4) (ci := 0) (k := 4) 4 (by decide +kernel : zi 3 30 = some (.getfield 15, 3)) (by decide +kernel) (by decide +kernel) (by decide +kernel) (by decide) rfl (fun q => q (1, 4, 4) (by decide +kernel)) ?_
      refine Fr.ild (by decide +kernel : zi 3 33 = some (.iload 5, 2)) rfl ?_
      refine Fr.ildn (by decide +kernel : zi 3 35 = some (.iload_n 1, 1)) rfl ?_
      obtain ⟨⟨g0, g1⟩, h⟩ := h
      refine Fr.iast (c := 3) (N := 6) (by decide +kernel : zi 3 36 = some (.iastore, 1)) (by decide +kernel) (by decide) g0 g1 ?_
      refine Fr.aldn (c := 2) (by decide +kernel : zi 3 37 = some (.aload_n 0, 1)) rfl ⟨by omega, by omega⟩ ?_
      refine Fr.gR (c := 1) (c2 := 3) (ci := 0) (k := 3) 3 (by decide +kernel : zi 3 38 = some (.getfield 9, 3)) (by decide +kernel) (by decide +kernel) (by decide +kernel) (by decide) rfl (fun q => q (1, 3, 3) (by decide +kernel)) ?_
      refine Fr.ild (by decide +kernel : zi 3 41 = some (.iload 5, 2)) rfl ?_
      refine Fr.ildn (by decide +kernel : zi 3 43 = some (.iload_n 2, 1)) rfl ?_
      refine Fr.bipush (by decide +kernel : zi 3 44 = some (.bipush 10, 2)) (by decide) ?_
      refine Fr.idiv (by decide +kernel : zi 3 46 = some (.idiv, 1)) (by decide) ?_
      obtain ⟨⟨g0, g1⟩, h⟩ := h
      refine Fr.iast (c := 2) (N := 6) (by decide +kernel : zi 3 47 = some (.iastore, 1)) (by decide +kernel) (by decide) g0 g1 ?_
      refine Fr.aldn (c := 2) (by decide +kernel : zi 3 48 = some (.aload_n 0, 1)) rfl ⟨by omega, by omega⟩ ?_
      refine Fr.gR (c := 1) (c2 := 5) (ci := 0) (k := 5) 5 (by decide +kernel : zi 3 49 = some (.getfield 18, 3)) (by decide +kernel) (by decide +kernel) (by decide +kernel) (by decide) rfl (fun q => q (1, 5, 5) (by decide +kernel)) ?_
      refine Fr.ild (by decide +kernel : zi 3 52 = some (.iload 5, 2)) rfl ?_
      refine Fr.ildn (by decide +kernel : zi 3 54 = some (.iload_n 2, 1)) rfl ?_
      refine Fr.bipush (by decide +kernel : zi 3 55 = some (.bipush 10, 2)) (by decide) ?_
      refine Fr.irem (by decide +kernel : zi 3 57 = some (.irem, 1)) (by decide) ?_
      obtain ⟨⟨g0, g1⟩, h⟩ := h
      refine Fr.iast (c := 4) (N := 6) (by decide +kernel : zi 3 58 = some (.iastore, 1)) (by decide +kernel) (by decide) g0 g1 ?_
      refine Fr.aldn (c := 2) (by decide +kernel : zi 3 59 = some (.aload_n 0, 1)) rfl ⟨by omega, by omega⟩ ?_
      refine Fr.gR (c := 1) (c2 := 6) (ci := 0) (k := 6) 6 (by decide +kernel : zi 3 60 = some (.getfield 21, 3)) (by decide +kernel) (by decide +kernel) (by decide +kernel) (by decide) rfl (fun q => q (1, 6, 6) (by decide +kernel)) ?_
      refine Fr.ild (by decide +kernel : zi 3 63 = some (.iload 5, 2)) rfl ?_
      refine Fr.ildn (by decide +kernel : zi 3 65 = some (.iload_n 3, 1)) rfl ?_
      refine Fr.bipush (by decide +kernel : zi 3 66 = some (.bipush 100, 2)) (by decide) ?_
      refine Fr.idiv (by decide +kernel : zi 3 68 = some (.idiv, 1)) (by decide) ?_
      obtain ⟨⟨g0, g1⟩, h⟩ := h
      refine Fr.iast (c := 5) (N := 6) (by decide +kernel : zi 3 69 = some (.iastore, 1)) (by decide +kernel) (by decide) g0 g1 ?_
      refine Fr.aldn (c := 2) (by decide +kernel : zi 3 70 = some (.aload_n 0, 1)) rfl ⟨by omega, by omega⟩ ?_
      refine Fr.gR (c := 1) (c2 := 7) (ci := 0) (k := 7) 7 (by decide +kernel : zi 3 71 = some (.getfield 24, 3)) (by decide +kernel) (by decide +kernel) (by decide +kernel) (by decide) rfl (fun q => q (1, 7, 7) (by decide +kernel)) ?_
      refine Fr.ild (by decide +kernel : zi 3 74 = some (.iload 5, 2)) rfl ?_
      refine Fr.ildn (by decide +kernel : zi 3 76 = some (.iload_n 3, 1)) rfl ?_
      refine Fr.bipush (by decide +kernel : zi 3 77 = some (.bipush 100, 2)) (by decide) ?_
      refine Fr.irem (by decide +kernel : zi 3 79 = some (.irem, 1)) (by decide) ?_
      obtain ⟨⟨g0, g1⟩, h⟩ := h
      refine Fr.iast (c := 6) (N := 6) (by decide +kernel : zi 3 80 = some (.iastore, 1)) (by decide +kernel) (by decide) g0 g1 ?_
      refine Fr.aldn (c := 2) (by decide +kernel : zi 3 81 = some (.aload_n 0, 1)) rfl ⟨by omega, by omega⟩ ?_
      refine Fr.gR (c := 1) (c2 := 8) (ci := 0) (k := 8) 8 (by decide +kernel : zi 3 82 = some (.getfield 27, 3)) (by decide +kernel) (by decide +kernel) (by decide +kernel) (by decide) rfl (fun q => q (1, 8, 8) (by decide +kernel)) ?_
      refine Fr.ild (by decide +kernel : zi 3 85 = some (.iload 5, 2)) rfl ?_
      refine Fr.ild (by decide +kernel : zi 3 87 = some (.iload 4, 2)) rfl ?_
      obtain ⟨⟨g0, g1⟩, h⟩ := h
      refine Fr.iast (c := 7) (N := 6) (by decide +kernel : zi 3 89 = some (.iastore, 1)) (by decide +kernel) (by decide) g0 g1 ?_
      refine Fr.aldn (c := 2) (by decide +kernel : zi 3 90 = some (.aload_n 0, 1)) rfl ⟨by omega, by omega⟩ ?_
      refine Fr.gR (c := 1) (c2 := 9) (ci := 0) (k := 9) 9 (by decide +kernel : zi 3 91 = some (.getfield 30, 3)) (by decide +kernel) (by decide +kernel) (by decide +kernel) (by decide) rfl (fun q => q (1, 9, 9) (by decide +kernel)) ?_
      refine Fr.ild (by decide +kernel : zi 3 94 = some (.iload 5, 2)) rfl ?_
      refine Fr.iconst (by decide +kernel : zi 3 96 = some (.iconst 0, 1)) (by decide) ?_
      obtain ⟨⟨g0, g1⟩, h⟩ := h
      refine Fr.iast (c := 8) (N := 6) (by decide +kernel : zi 3 97 = some (.iastore, 1)) (by decide +kernel) (by decide) g0 g1 ?_
      exact Fr.retV (by decide +kernel : zi 3 98 = some (.return_, 1)) (by decide +kernel) h
    · have h := h.2 g9
      exact Fr.retV (by decide +kernel : zi 3 18 = some (.return_, 1)) (by decide +kernel) h
theorem e3 {xs : Nat → Int} {L : Nat} {d : Nat} {v1 : Int} {v2 : Int} {v3 : Int} {v4 : Int} {s : Pl} {Q : Option AV → Pl → Prop} (hd : 1 ≤ d) (k : Fr xs L T0 106 (d - 1) 3 0 [some (rf 2), some (it v1), some (it v2), some (it v3), some (it v4), none] [] s Q) : Ev xs L T0 106 d 3 [rf 2, it v1, it v2, it v3, it v4] s Q := Ev.of (by decide) _ rfl hd k
-- 4 X0_setHours
theorem f4_0 {xs : Nat → Int} {L : Nat} {d : Nat} {v1 : Int} {v2 : Int} {v3 : Int} {s : Pl} {P : Int → Pl → Prop} (h : Ev xs L T0 106 d 126 [it v1] s (qi fun r2 s1 => ((r2 = 0 → P 0 s1) ∧ (¬ (r2 = 0) → Ev xs L T0 106 d 126 [it v2] s1 (qi fun r4 s3 => ((¬ r4 = 0 → (0 ≤ zw ((zw (4 * v1)) + v2) ∧ zw ((zw (4 * v1)) + v2) < 16) ∧ (0 ≤ zw ((zw (4 * v1)) + v2) ∧ zw ((zw (4 * v1)) + v2) < 16) ∧ (0 ≤ zw ((zw (4 * v2)) + v1) ∧ zw ((zw (4 * v2)) + v1) < 16) ∧ P (s3 9 (zw ((zw (4 * v1)) + v2))) (zup (zup s3 9 (zw ((zw (4 * v1)) + v2)) v3) 9 (zw ((zw (4 * v2)) + v1)) v3)) ∧ (¬ (¬ r4 = 0) → P 0 s3))))))) : Fr xs L T0 106 d 4 0 [some (rf 2), some (it v1), some (it v2), some (it v3), none] [] s (qi P) := by
  refine Fr.ildn (by decide +kernel : zi 4 0 = some (.iload_n 1, 1)) rfl ?_
  refine Fr.callI (y2 := 126) (na := 1) (as := [it v1]) (rest := []) (by decide +kernel : zi 4 1 = some (.invokestatic 58, 3)) rfl (by decide +kernel) (by decide +kernel) rfl rfl (zok_S rfl (by decide) (by decide +kernel) rfl (Nat.le_of_ble_eq_true rfl)) h (fun r2 s1 h => ?_)
  refine Fr.if0 (q := 14) (by decide +kernel : zi 4 4 = some (.ifCond .eq 10, 3)) (by decide +kernel) (fun g9 => ?_) (fun g9 => ?_)
  · have h := h.1 g9
    refine Fr.iconst (by decide +kernel : zi 4 14 = some (.iconst 0, 1)) (by decide) ?_
    exact Fr.retI (by decide +kernel : zi 4 15 = some (.ireturn, 1)) (by decide +kernel) h
  · have h := h.2 g9
    refine Fr.ildn (by decide +kernel : zi 4 7 = some (.iload_n 2, 1)) rfl ?_
    refine Fr.callI (y2 := 126) (na := 1) (as := [it v2]) (rest := []) (by decide +kernel : zi 4 8 = some (.invokestatic 58, 3)) rfl (by decide +kernel) (by decide +kernel) rfl rfl (zok_S rfl (by decide) (by decide +kernel) rfl (Nat.le_of_ble_eq_true rfl)) h (fun r4 s3 h => ?_)
    refine Fr.if0 (q := 16) (by decide +kernel : zi 4 11 = some (.ifCond .ne 5, 3)) (by decide +kernel) (fun g9 => ?_) (fun g9 => ?_)
    · have h := h.1 g9
      refine Fr.aldn (c := 2) (by decide +kernel : zi 4 16 = some (.aload_n 0, 1)) rfl ⟨by omega, by omega⟩ ?_
      refine Fr.gR (c := 1) (c2 := 10) (ci := 0) (k := 10) 10 (by decide +kernel : zi 4 17 = some (.getfield 33, 3)) (by decide +kernel) (by decide +kernel) (by decide +kernel) (by decide) rfl (fun q => q (1, 10, 10) (by decide +kernel)) ?_
      refine Fr.iconst (by decide +kernel : zi 4 20 = some (.iconst 4, 1)) (by decide) ?_
      refine Fr.ildn (by decide +kernel : zi 4 21 = some (.iload_n 1, 1)) rfl ?_
      refine Fr.imul (by decide +kernel : zi 4 22 = some (.imul, 1)) ?_
      refine Fr.ildn (by decide +kernel : zi 4 23 = some (.iload_n 2, 1)) rfl ?_
      refine Fr.iadd (by decide +kernel : zi 4 24 = some (.iadd, 1)) ?_
      obtain ⟨⟨g0, g1⟩, h⟩ := h
      refine Fr.iald (c := 9) (N := 16) (by decide +kernel : zi 4 25 = some (.iaload, 1)) (by decide +kernel) (by decide) g0 g1 ?_
      refine Fr.ist (lv2 := [some (rf 2), some (it v1), some (it v2), some (it v3), some (it (s3 9 (zw ((zw (4 * v1)) + v2))))]) (by decide +kernel : zi 4 26 = some (.istore 4, 2)) (Nat.le_of_ble_eq_true rfl) rfl ?_
      refine Fr.aldn (c := 2) (by decide +kernel : zi 4 28 = some (.aload_n 0, 1)) rfl ⟨by omega, by omega⟩ ?_
      refine Fr.gR (c := 1) (c2 := 10) (ci := 0) (k := 10) 10 (by decide +kernel : zi 4 29 = some (.getfield 33, 3)) (by decide +kernel) (by decide +kernel) (by decide +kernel) (by decide) rfl (fun q => q (1, 10, 10) (by decide +kernel)) ?_
      refine Fr.iconst (by decide +kernel : zi 4 32 = some (.iconst 4, 1)) (by decide) ?_
      refine Fr.ildn (by decide +kernel : zi 4 33 = some (.iload_n 1, 1)) rfl ?_
      refine Fr.imul (by decide +kernel : zi 4 34 = some (.imul, 1)) ?_
      refine Fr.ildn (by decide +kernel : zi 4 35 = some (.iload_n 2, 1)) rfl ?_
      refine Fr.iadd (by decide +kernel : zi 4 36 = some (.iadd, 1)) ?_
      refine Fr.ildn (by decide +kernel : zi 4 37 = some (.iload_n 3, 1)) rfl ?_
      obtain ⟨⟨g0, g1⟩, h⟩ := h
      refine Fr.iast (c := 9) (N := 16) (by decide +kernel : zi 4 38 = some (.iastore, 1)) (by decide +kernel) (by decide) g0 g1 ?_
      refine Fr.aldn (c := 2) (by decide +kernel : zi 4 39 = some (.aload_n 0, 1)) rfl ⟨by omega, by omega⟩ ?_
      refine Fr.gR (c := 1) (c2 := 10) (ci := 0) (k := 10) 10 (by decide +kernel : zi 4 40 = some (.getfield 33, 3)) (by decide +kernel) (by decide +kernel) (by decide +kernel) (by decide) rfl (fun q => q (1, 10, 10) (by decide +kernel)) ?_
      refine Fr.iconst (by decide +kernel : zi 4 43 = some (.iconst 4, 1)) (by decide) ?_
      refine Fr.ildn (by decide +kernel : zi 4 44 = some (.iload_n 2, 1)) rfl ?_
      refine Fr.imul (by decide +kernel : zi 4 45 = some (.imul, 1)) ?_
      refine Fr.ildn (by decide +kernel : zi 4 46 = some (.iload_n 1, 1)) rfl ?_
      refine Fr.iadd (by decide +kernel : zi 4 47 = some (.iadd, 1)) ?_
      refine Fr.ildn (by decide +kernel : zi 4 48 = some (.iload_n 3, 1)) rfl ?_
      obtain ⟨⟨g0, g1⟩, h⟩ := h
      refine Fr.iast (c := 9) (N := 16) (by decide +kernel : zi 4 49 = some (.iastore, 1)) (by decide +kernel) (by decide) g0 g1 ?_
      refine Fr.ild (by decide +kernel : zi 4 50 = some (.iload 4, 2)) rfl ?_
      exact Fr.retI (by decide +kernel : zi 4 52 = some (.ireturn, 1)) (by decide +kernel) h
    · have h := h.2 g9
      refine Fr.iconst (by decide +kernel : zi 4 14 = some (.iconst 0, 1)) (by decide) ?_
      exact Fr.retI (by decide +kernel : zi 4 15 = some (.ireturn, 1)) (by decide +kernel) h
theorem e4 {xs : Nat → Int} {L : Nat} {d : Nat} {v1 : Int} {v2 : Int} {v3 : Int} {s : Pl} {Q : Option AV → Pl → Prop} (hd : 1 ≤ d) (k : Fr xs L T0 106 (d - 1) 4 0 [some (rf 2), some (it v1), some (it v2), some (it v3), none] [] s Q) : Ev xs L T0 106 d 4 [rf 2, it v1, it v2, it v3] s Q := Ev.of (by decide) _ rfl hd k
-- 5 X0_setFoes
theorem f5_0 {xs : Nat → Int} {L : Nat} {d : Nat} {v1 : Int} {v2 : Int} {v3 : Int} {s : Pl} {P : Int → Pl → Prop} (h : Ev xs L T0 106 d 2 [rf 2, it v1] s (qi fun r2 s1 => ((r2 = 0 → P 0 s1) ∧ (¬ (r2 = 0) → Ev xs L T0 106 d 2 [rf 2, it v2] s1 (qi fun r4 s3 => ((¬ r4 = 0 → (0 ≤ v1 ∧ v1 < 6) ∧ (0 ≤ v1 ∧ v1 < 6) ∧ (0 ≤ v1 ∧ v1 < 6) ∧ (0 ≤ v2 ∧ v2 < 6) ∧ (0 ≤ v2 ∧ v2 < 6) ∧ P (zand (zshr (s3 8 v1) v2) 1) (zup (zup s3 8 v1 (zor (zand (s3 8 v1) (zxor (zshl 1 v2) (-1))) (zshl v3 v2))) 8 v2 (zor (zand ((zup s3 8 v1 (zor (zand (s3 8 v1) (zxor (zshl 1 v2) (-1))) (zshl v3 v2))) 8 v2) (zxor (zshl 1 v1) (-1))) (zshl v3 v1)))) ∧ (¬ (¬ r4 = 0) → P 0 s3))))))) : Fr xs L T0 106 d 5 0 [some (rf 2), some (it v1), some (it v2), some (it v3), none] [] s (qi P) := by
  refine Fr.aldn (c := 2) (by decide +kernel : zi 5 0 = some (.aload_n 0, 1)) rfl ⟨by omega, by omega⟩ ?_
  refine Fr.ildn (by decide +kernel : zi 5 1 = some (.iload_n 1, 1)) rfl ?_
  refine Fr.callI (y2 := 2) (na := 2) (as := [rf 2, it v1]) (rest := []) (by decide +kernel : zi 5 2 = some (.invokevirtual 62, 3)) rfl (by decide +kernel) (by decide +kernel) rfl rfl (zok_V rfl (by decide) (by decide +kernel) (by decide +kernel) (zrecv_c (c := 1) (by decide) (by decide +kernel)) rfl (Nat.le_of_ble_eq_true rfl)) h (fun r2 s1 h => ?_)
  refine Fr.if0 (q := 16) (by decide +kernel : zi 5 5 = some (.ifCond .eq 11, 3)) (by decide +kernel) (fun g9 => ?_) (fun g9 => ?_)
  · have h := h.1 g9
    refine Fr.iconst (by decide +kernel : zi 5 16 = some (.iconst 0, 1)) (by decide) ?_
    exact Fr.retI (by decide +kernel : zi 5 17 = some (.ireturn, 1)) (by decide +kernel) h
  · have h := h.2 g9
    refine Fr.aldn (c := 2) (by decide +kernel : zi 5 8 = some (.aload_n 0, 1)) rfl ⟨by omega, by omega⟩ ?_
    refine Fr.ildn (by decide +kernel : zi 5 9 = some (.iload_n 2, 1)) rfl ?_
    refine Fr.callI (y2 := 2) (na := 2) (as := [rf 2, it v2]) (rest := []) (by decide +kernel : zi 5 10 = some (.invokevirtual 62, 3)) rfl (by decide +kernel) (by decide +kernel) rfl rfl (zok_V rfl (by decide) (by decide +kernel) (by decide +kernel) (zrecv_c (c := 1) (by decide) (by decide +kernel)) rfl (Nat.le_of_ble_eq_true rfl)) h (fun r4 s3 h => ?_)
    refine Fr.if0 (q := 18) (by decide +kernel : zi 5 13 = some (.ifCond .ne 5, 3)) (by decide +kernel) (fun g9 => ?_) (fun g9 => ?_)
    · have h := h.1 g9
      refine Fr.aldn (c := 2) (by decide +kernel : zi 5 18 = some (.aload_n 0, 1)) rfl ⟨by omega, by omega⟩ ?_
      refine Fr.gR (c := 1) (c2 := 9) (ci := 0) (k := 9) 9 (by decide +kernel : zi 5 19 = some (.getfield 30, 3)) (by decide +kernel) (by decide +kernel) (by decide +kernel) (by decide) rfl (fun q => q (1, 9, 9) (by decide +kernel)) ?_
      refine Fr.ildn (by decide +kernel : zi 5 22 = some (.iload_n 1, 1)) rfl ?_
      obtain ⟨⟨g0, g1⟩, h⟩ := h
      refine Fr.iald (c := 8) (N := 6) (by decide +kernel : zi 5 23 = some (.iaload, 1)) (by decide +kernel) (by decide) g0 g1 ?_
      refine Fr.ildn (by decide +kernel : zi 5 24 = some (.iload_n 2, 1)) rfl ?_
      refine Fr.ishr (by decide +kernel : zi 5 25 = some (.ishr, 1)) ?_
      refine Fr.iconst (by decide +kernel : zi 5 26 = some (.iconst 1, 1)) (by decide) ?_
      refine Fr.iand (by decide +kernel : zi 5 27 = some (.iand, 1)) ?_
      refine Fr.ist (lv2 := [some (rf 2), some (it v1), some (it v2), some (it v3), some (it (zand (zshr (s3 8 v1) v2) 1))]) (by decide +kernel : zi 5 28 = some (.istore 4, 2)) (Nat.le_of_ble_eq_true rfl) rfl ?_
      refine Fr.aldn (c := 2) (by decide +kernel : zi 5 30 = some (.aload_n 0, 1)) rfl ⟨by omega, by omega⟩ ?_
      refine Fr.gR (c := 1) (c2 := 9) (ci := 0) (k := 9) 9 (by decide +kernel : zi 5 31 = some (.getfield 30, 3)) (by decide +kernel) (by decide +kernel) (by decide +kernel) (by decide) rfl (fun q => q (1, 9, 9) (by decide +kernel)) ?_
      refine Fr.ildn (by decide +kernel : zi 5 34 = some (.iload_n 1, 1)) rfl ?_
      refine Fr.aldn (c := 2) (by decide +kernel : zi 5 35 = some (.aload_n 0, 1)) rfl ⟨by omega, by omega⟩ ?_
      refine Fr.gR (c := 1) (c2 := 9) (ci := 0) (k := 9) 9 (by decide +kernel : zi 5 36 = some (.getfield 30, 3)) (by decide +kernel) (by decide +kernel) (by decide +kernel) (by decide) rfl (fun q => q (1, 9, 9) (by decide +kernel)) ?_
      refine Fr.ildn (by decide +kernel : zi 5 39 = some (.iload_n 1, 1)) rfl ?_
      obtain ⟨⟨g0, g1⟩, h⟩ := h
      refine Fr.iald (c := 8) (N := 6) (by decide +kernel : zi 5 40 = some (.iaload, 1)) (by decide +kernel) (by decide) g0 g1 ?_
      refine Fr.iconst (by decide +kernel : zi 5 41 = some (.iconst 1, 1)) (by decide) ?_
      refine Fr.ildn (by decide +kernel : zi 5 42 = some (.iload_n 2, 1)) rfl ?_
      refine Fr.ishl (by decide +kernel : zi 5 43 = some (.ishl, 1)) ?_
      refine Fr.iconst (by decide +kernel : zi 5 44 = some (.iconst (-1), 1)) (by decide) ?_
      refine Fr.ixor (by decide +kernel : zi 5 45 = some (.ixor, 1)) ?_
      refine Fr.iand (by decide +kernel : zi 5 46 = some (.iand, 1)) ?_
      refine Fr.ildn (by decide +kernel : zi 5 47 = some (.iload_n 3, 1)) rfl ?_
      refine Fr.ildn (by decide +kernel : zi 5 48 = some (.iload_n 2, 1)) rfl ?_
      refine Fr.ishl (by decide +kernel : zi 5 49 = some (.ishl, 1)) ?_
      refine Fr.ior (by decide +kernel : zi 5 50 = some (.ior, 1)) ?_
      obtain ⟨⟨g0, g1⟩, h⟩ := h
      refine Fr.iast (c := 8) (N := 6) (by decide +kernel : zi 5 51 = some (.iastore, 1)) (by decide +kernel) (by decide) g0 g1 ?_
      refine Fr.aldn (c := 2) (by decide +kernel : zi 5 52 = some (.aload_n 0, 1)) rfl ⟨by omega, by omega⟩ ?_
      refine Fr.gR (c := 1) (c2 := 9) (ci := 0) (k := 9) 9 (by decide +kernel : zi 5 53 = some (.getfield 30, 3)) (by decide +kernel) (by decide +kernel) (by decide +kernel) (by decide) rfl (fun q => q (1, 9, 9) (by decide +kernel)) ?_
      refine Fr.ildn (by decide +kernel : zi 5 56 = some (.iload_n 2, 1)) rfl ?_
      refine Fr.aldn (c := 2) (by decide +kernel : zi 5 57 = some (.aload_n 0, 1)) rfl ⟨by omega, by omega⟩ ?_
      refine Fr.gR (c := 1) (c2 := 9) (ci := 0) (k := 9) 9 (by decide +kernel : zi 5 58 = some (.getfield 30, 3)) (by decide +kernel) (by decide +kernel) (by decide +kernel) (by decide) rfl (fun q => q (1, 9, 9) (by decide +kernel)) ?_
      refine Fr.ildn (by decide +kernel : zi 5 61 = some (.iload_n 2, 1)) rfl ?_
      obtain ⟨⟨g0, g1⟩, h⟩ := h
      refine Fr.iald (c := 8) (N := 6) (by decide +kernel : zi 5 62 = some (.iaload, 1)) (by decide +kernel) (by decide) g0 g1 ?_
      refine Fr.iconst (by decide +kernel : zi 5 63 = some (.iconst 1, 1)) (by decide) ?_
      refine Fr.ildn (by decide +kernel : zi 5 64 = some (.iload_n 1, 1)) rfl ?_
      refine Fr.ishl (by decide +kernel : zi 5 65 = some (.ishl, 1)) ?_
      refine Fr.iconst (by decide +kernel : zi 5 66 = some (.iconst (-1), 1)) (by decide) ?_
      refine Fr.ixor (by decide +kernel : zi 5 67 = some (.ixor, 1)) ?_
      refine Fr.iand (by decide +kernel : zi 5 68 = some (.iand, 1)) ?_
      refine Fr.ildn (by decide +kernel : zi 5 69 = some (.iload_n 3, 1)) rfl ?_
      refine Fr.ildn (by decide +kernel : zi 5 70 = some (.iload_n 1, 1)) rfl ?_
      refine Fr.ishl (by decide +kernel : zi 5 71 = some (.ishl, 1)) ?_
      refine Fr.ior (by decide +kernel : zi 5 72 = some (.ior, 1)) ?_
      obtain ⟨⟨g0, g1⟩, h⟩ := h
      refine Fr.iast (c := 8) (N := 6) (by decide +kernel : zi 5 73 = some (.iastore, 1)) (by decide +kernel) (by decide) g0 g1 ?_
      refine Fr.ild (by decide +kernel : zi 5 74 = some (.iload 4, 2)) rfl ?_
      exact Fr.retI (by decide +kernel : zi 5 76 = some (.ireturn, 1)) (by decide +kernel) h
    · have h := h.2 g9
      refine Fr.iconst (by decide +kernel : zi 5 16 = some (.iconst 0, 1)) (by decide) ?_
      exact Fr.retI (by decide +kernel : zi 5 17 = some (.ireturn, 1)) (by decide +kernel) h
theorem e5 {xs : Nat → Int} {L : Nat} {d : Nat} {v1 : Int} {v2 : Int} {v3 : Int} {s : Pl} {Q : Option AV → Pl → Prop} (hd : 1 ≤ d) (k : Fr xs L T0 106 (d - 1) 5 0 [some (rf 2), some (it v1), some (it v2), some (it v3), none] [] s Q) : Ev xs L T0 106 d 5 [rf 2, it v1, it v2, it v3] s Q := Ev.of (by decide) _ rfl hd k
-- 6 X0_whoIsAt
theorem f6_0 {xs : Nat → Int} {L : Nat} {d : Nat} {v1 : Int} {s : Pl} {P : Int → Pl → Prop} (h : Fr xs L T0 106 d 6 4 [some (rf 2), some (it v1), some (it 0), some (it 0)] [] s (qi P)) : Fr xs L T0 106 d 6 0 [some (rf 2), some (it v1), none, none] [] s (qi P) := by
  refine Fr.iconst (by decide +kernel : zi 6 0 = some (.iconst 0, 1)) (by decide) ?_
  refine Fr.istn (lv2 := [some (rf 2), some (it v1), some (it 0), none]) (by decide +kernel : zi 6 1 = some (.istore_n 2, 1)) (Nat.le_of_ble_eq_true rfl) rfl ?_
  refine Fr.iconst (by decide +kernel : zi 6 2 = some (.iconst 0, 1)) (by decide) ?_
  refine Fr.istn (lv2 := [some (rf 2), some (it v1), some (it 0), some (it 0)]) (by decide +kernel : zi 6 3 = some (.istore_n 3, 1)) (Nat.le_of_ble_eq_true rfl) rfl ?_
  exact h
theorem e6 {xs : Nat → Int} {L : Nat} {d : Nat} {v1 : Int} {s : Pl} {Q : Option AV → Pl → Prop} (hd : 1 ≤ d) (k : Fr xs L T0 106 (d - 1) 6 0 [some (rf 2), some (it v1), none, none] [] s Q) : Ev xs L T0 106 d 6 [rf 2, it v1] s Q := Ev.of (by decide) _ rfl hd k
theorem f6_4 {xs : Nat → Int} {L : Nat} {d : Nat} {v1 : Int} {v2 : Int} {v3 : Int} {s : Pl} {P : Int → Pl → Prop} (h : ((s 1 1 ≤ v3 → P v2 s) ∧ (¬ (s 1 1 ≤ v3) → ((6 ≤ v3 → P v2 s) ∧ (¬ (6 ≤ v3) → (0 ≤ v3 ∧ v3 < 6) ∧ ((¬ s 2 v3 = v1 → Fr xs L T0 106 d 6 34 [some (rf 2), some (it v1), some (it v2), some (it v3)] [] s (qi P)) ∧ (¬ (¬ s 2 v3 = v1) → Fr xs L T0 106 d 6 34 [some (rf 2), some (it v1), some (it (zor v2 (zshl 1 v3))), some (it v3)] [] s (qi P)))))))) : Fr xs L T0 106 d 6 4 [some (rf 2), some (it v1), some (it v2), some (it v3)] [] s (qi P) := by
  refine Fr.ildn (by decide +kernel : zi 6 4 = some (.iload_n 3, 1)) rfl ?_
  refine Fr.aldn (c := 2) (by decide +kernel : zi 6 5 = some (.aload_n 0, 1)) rfl ⟨by omega, by omega⟩ ?_
  refine Fr.gI (c := 1) (ci := 0) (k := 1) (t := 0) 1 (by decide +kernel : zi 6 6 = some (.getfield 46, 3)) (by decide +kernel) (by decide +kernel) (by decide +kernel) (by decide) rfl ?_
  refine Fr.if2 (q := 40) (by decide +kernel : zi 6 9 = some (.if_icmp .ge 31, 3)) (by decide +kernel) (fun g9 => ?_) (fun g9 => ?_)
  · have h := h.1 g9
    refine Fr.ildn (by decide +kernel : zi 6 40 = some (.iload_n 2, 1)) rfl ?_
    exact Fr.retI (by decide +kernel : zi 6 41 = some (.ireturn, 1)) (by decide +kernel) h
  · have h := h.2 g9
    refine Fr.ildn (by decide +kernel : zi 6 12 = some (.iload_n 3, 1)) rfl ?_
    refine Fr.bipush (by decide +kernel : zi 6 13 = some (.bipush 6, 2)) (by decide) ?_
    refine Fr.if2 (q := 40) (by decide +kernel : zi 6 15 = some (.if_icmp .ge 25, 3)) (by decide +kernel) (fun g9 => ?_) (fun g9 => ?_)
    · have h := h.1 g9
      refine Fr.ildn (by decide +kernel : zi 6 40 = some (.iload_n 2, 1)) rfl ?_
      exact Fr.retI (by decide +kernel : zi 6 41 = some (.ireturn, 1)) (by decide +kernel) h
    · have h := h.2 g9
      refine Fr.aldn (c := 2) (by decide +kernel : zi 6 18 = some (.aload_n 0, 1)) rfl ⟨by omega, by omega⟩ ?_
      refine Fr.gR (c := 1) (c2 := 3) (ci := 0) (k := 3) 3 (by decide +kernel : zi 6 19 = some (.getfield 9, 3)) (by decide +kernel) (by decide +kernel) (by decide +kernel) (by decide) rfl (fun q => q (1, 3, 3) (by decide +kernel)) ?_
      refine Fr.ildn (by decide +kernel : zi 6 22 = some (.iload_n 3, 1)) rfl ?_
      obtain ⟨⟨g0, g1⟩, h⟩ := h
      refine Fr.iald (c := 2) (N := 6) (by decide +kernel : zi 6 23 = some (.iaload, 1)) (by decide +kernel) (by decide) g0 g1 ?_
      refine Fr.ildn (by decide +kernel : zi 6 24 = some (.iload_n 1, 1)) rfl ?_
      refine Fr.if2 (q := 34) (by decide +kernel : zi 6 25 = some (.if_icmp .ne 9, 3)) (by decide +kernel) (fun g9 => ?_) (fun g9 => ?_)
      · have h := h.1 g9
        exact h
      · have h := h.2 g9
        refine Fr.ildn (by decide +kernel : zi 6 28 = some (.iload_n 2, 1)) rfl ?_
        refine Fr.iconst (by decide +kernel : zi 6 29 = some (.iconst 1, 1)) (by decide) ?_
        refine Fr.ildn (by decide +kernel : zi 6 30 = some (.iload_n 3, 1)) rfl ?_
        refine Fr.ishl (by decide +kernel : zi 6 31 = some (.ishl, 1)) ?_
        refine Fr.ior (by decide +kernel : zi 6 32 = some (.ior, 1)) ?_
        refine Fr.istn (lv2 := [some (rf 2), some (it v1), some (it (zor v2 (zshl 1 v3))), some (it v3)]) (by decide +kernel : zi 6 33 = some (.istore_n 2, 1)) (Nat.le_of_ble_eq_true rfl) rfl ?_
        exact h
theorem f6_34 {xs : Nat → Int} {L : Nat} {d : Nat} {v1 : Int} {v2 : Int} {v3 : Int} {s : Pl} {P : Int → Pl → Prop} (h : Fr xs L T0 106 d 6 4 [some (rf 2), some (it v1), some (it v2), some (it (zw (v3 + 1)))] [] s (qi P)) : Fr xs L T0 106 d 6 34 [some (rf 2), some (it v1), some (it v2), some (it v3)] [] s (qi P) := by
  refine Fr.iinc (lv2 := [some (rf 2), some (it v1), some (it v2), some (it (zw (v3 + 1)))]) (by decide +kernel : zi 6 34 = some (.iinc 3 1, 3)) (Nat.le_of_ble_eq_true rfl) rfl rfl ?_
  refine Fr.goto (q := 4) (by decide +kernel : zi 6 37 = some (.goto (-33), 3)) (by decide +kernel) ?_
  exact h
-- 7 X0_whoIsA
theorem f7_0 {xs : Nat → Int} {L : Nat} {d : Nat} {v1 : Int} {s : Pl} {P : Int → Pl → Prop} (h : Fr xs L T0 106 d 7 4 [some (rf 2), some (it v1), some (it 0), some (it 0)] [] s (qi P)) : Fr xs L T0 106 d 7 0 [some (rf 2), some (it v1), none, none] [] s (qi P) := by
  refine Fr.iconst (by decide +kernel : zi 7 0 = some (.iconst 0, 1)) (by decide) ?_
  refine Fr.istn (lv2 := [some (rf 2), some (it v1), some (it 0), none]) (by decide +kernel : zi 7 1 = some (.istore_n 2, 1)) (Nat.le_of_ble_eq_true rfl) rfl ?_
  refine Fr.iconst (by decide +kernel : zi 7 2 = some (.iconst 0, 1)) (by decide) ?_
  refine Fr.istn (lv2 := [some (rf 2), some (it v1), some (it 0), some (it 0)]) (by decide +kernel : zi 7 3 = some (.istore_n 3, 1)) (Nat.le_of_ble_eq_true rfl) rfl ?_
  exact h
theorem e7 {xs : Nat → Int} {L : Nat} {d : Nat} {v1 : Int} {s : Pl} {Q : Option AV → Pl → Prop} (hd : 1 ≤ d) (k : Fr xs L T0 106 (d - 1) 7 0 [some (rf 2), some (it v1), none, none] [] s Q) : Ev xs L T0 106 d 7 [rf 2, it v1] s Q := Ev.of (by decide) _ rfl hd k
theorem f7_4 {xs : Nat → Int} {L : Nat} {d : Nat} {v1 : Int} {v2 : Int} {v3 : Int} {s : Pl} {P : Int → Pl → Prop} (h : ((s 1 1 ≤ v3 → P v2 s) ∧ (¬ (s 1 1 ≤ v3) → ((6 ≤ v3 → P v2 s) ∧ (¬ (6 ≤ v3) → (0 ≤ v3 ∧ v3 < 6) ∧ Ev xs L T0 106 d 129 [it (s 3 v3), it v1] s (qi fun r2 s1 => ((r2 = 0 → Fr xs L T0 106 d 7 37 [some (rf 2), some (it v1), some (it v2), some (it v3)] [] s1 (qi P)) ∧ (¬ (r2 = 0) → Fr xs L T0 106 d 7 37 [some (rf 2), some (it v1), some (it (zor v2 (zshl 1 v3))), some (it v3)] [] s1 (qi P))))))))) : Fr xs L T0 106 d 7 4 [some (rf 2), some (it v1), some (it v2), some (it v3)] [] s (qi P) := by
  refine Fr.ildn (by decide +kernel : zi 7 4 = some (.iload_n 3, 1)) rfl ?_
  refine Fr.aldn (c := 2) (by decide +kernel : zi 7 5 = some (.aload_n 0, 1)) rfl ⟨by omega, by omega⟩ ?_
  refine Fr.gI (c := 1) (ci := 0) (k := 1) (t := 0) 1 (by decide +kernel : zi 7 6 = some (.getfield 46, 3)) (by decide +kernel) (by decide +kernel) (by decide +kernel) (by decide) rfl ?_
  refine Fr.if2 (q := 43) (by decide +kernel : zi 7 9 = some (.if_icmp .ge 34, 3)) (by decide +kernel) (fun g9 => ?_) (fun g9 => ?_)
  · have h := h.1 g9
    refine Fr.ildn (by decide +kernel : zi 7 43 = some (.iload_n 2, 1)) rfl ?_
    exact Fr.retI (by decide +kernel : zi 7 44 = some (.ireturn, 1)) (by decide +kernel) h
  · have h := h.2 g9
    refine Fr.ildn (by decide +kernel : zi 7 12 = some (.iload_n 3, 1)) rfl ?_
    refine Fr.bipush (by decide +kernel : zi 7 13 = some (.bipush 6, 2)) (by decide) ?_
    refine Fr.if2 (q := 43) (by decide +kernel : zi 7 15 = some (.if_icmp .ge 28, 3)) (by decide +kernel) (fun g9 => ?_) (fun g9 => ?_)
    · have h := h.1 g9
      refine Fr.ildn (by decide +kernel : zi 7 43 = some (.iload_n 2, 1)) rfl ?_
      exact Fr.retI (by decide +kernel : zi 7 44 = some (.ireturn, 1)) (by decide +kernel) h
    · have h := h.2 g9
      refine Fr.aldn (c := 2) (by decide +kernel : zi 7 18 = some (.aload_n 0, 1)) rfl ⟨by omega, by omega⟩ ?_
      refine Fr.gR (c := 1) (c2 := 4) (ci := 0) (k := 4) 4 (by decide +kernel : zi 7 19 = some (.getfield 15, 3)) (by decide +kernel) (by decide +kernel) (by decide +kernel) (by decide) rfl (fun q => q (1, 4, 4) (by decide +kernel)) ?_
      refine Fr.ildn (by decide +kernel : zi 7 22 = some (.iload_n 3, 1)) rfl ?_
      obtain ⟨⟨g0, g1⟩, h⟩ := h
      refine Fr.iald (c := 3) (N := 6) (by decide +kernel : zi 7 23 = some (.iaload, 1)) (by decide +kernel) (by decide) g0 g1 ?_
      refine Fr.ildn (by decide +kernel : zi 7 24 = some (.iload_n 1, 1)) rfl ?_
      refine Fr.callI (y2 := 129) (na := 2) (as := [it (s 3 v3), it v1]) (rest := []) (by decide +kernel : zi 7 25 = some (.invokestatic 65, 3)) rfl (by decide +kernel) (by decide +kernel) rfl rfl (zok_S rfl (by decide) (by decide +kernel) rfl (Nat.le_of_ble_eq_true rfl)) h (fun r2 s1 h => ?_)
      refine Fr.if0 (q := 37) (by decide +kernel : zi 7 28 = some (.ifCond .eq 9, 3)) (by decide +kernel) (fun g9 => ?_) (fun g9 => ?_)
      · have h := h.1 g9
        exact h
      · have h := h.2 g9
        refine Fr.ildn (by decide +kernel : zi 7 31 = some (.iload_n 2, 1)) rfl ?_
        refine Fr.iconst (by decide +kernel : zi 7 32 = some (.iconst 1, 1)) (by decide) ?_
        refine Fr.ildn (by decide +kernel : zi 7 33 = some (.iload_n 3, 1)) rfl ?_
        refine Fr.ishl (by decide +kernel : zi 7 34 = some (.ishl, 1)) ?_
        refine Fr.ior (by decide +kernel : zi 7 35 = some (.ior, 1)) ?_
        refine Fr.istn (lv2 := [some (rf 2), some (it v1), some (it (zor v2 (zshl 1 v3))), some (it v3)]) (by decide +kernel : zi 7 36 = some (.istore_n 2, 1)) (Nat.le_of_ble_eq_true rfl) rfl ?_
        exact h
theorem f7_37 {xs : Nat → Int} {L : Nat} {d : Nat} {v1 : Int} {v2 : Int} {v3 : Int} {s : Pl} {P : Int → Pl → Prop} (h : Fr xs L T0 106 d 7 4 [some (rf 2), some (it v1), some (it v2), some (it (zw (v3 + 1)))] [] s (qi P)) : Fr xs L T0 106 d 7 37 [some (rf 2), some (it v1), some (it v2), some (it v3)] [] s (qi P) := by
  refine Fr.iinc (lv2 := [some (rf 2), some (it v1), some (it v2), some (it (zw (v3 + 1)))]) (by decide +kernel : zi 7 37 = some (.iinc 3 1, 3)) (Nat.le_of_ble_eq_true rfl) rfl rfl ?_
  refine Fr.goto (q := 4) (by decide +kernel : zi 7 40 = some (.goto (-36), 3)) (by decide +kernel) ?_
  exact h
-- 8 X0_state
theorem f8_0 {xs : Nat → Int} {L : Nat} {d : Nat}  {s : Pl} {P : Int → Pl → Prop} (h : Fr xs L T0 106 d 8 7 [some (rf 2), some (it (s 1 0)), some (it 0)] [] s (qi P)) : Fr xs L T0 106 d 8 0 [some (rf 2), none, none] [] s (qi P) := by
  refine Fr.aldn (c := 2) (by decide +kernel : zi 8 0 = some (.aload_n 0, 1)) rfl ⟨by omega, by omega⟩ ?_
  refine Fr.gI (c := 1) (ci := 0) (k := 0) (t := 0) 0 (by decide +kernel : zi 8 1 = some (.getfield 42, 3)) (by decide +kernel) (by decide +kernel) (by decide +kernel) (by decide) rfl ?_
  refine Fr.istn (lv2 := [some (rf 2), some (it (s 1 0)), none]) (by decide +kernel : zi 8 4 = some (.istore_n 1, 1)) (Nat.le_of_ble_eq_true rfl) rfl ?_
  refine Fr.iconst (by decide +kernel : zi 8 5 = some (.iconst 0, 1)) (by decide) ?_
  refine Fr.istn (lv2 := [some (rf 2), some (it (s 1 0)), some (it 0)]) (by decide +kernel : zi 8 6 = some (.istore_n 2, 1)) (Nat.le_of_ble_eq_true rfl) rfl ?_
  exact h
theorem e8 {xs : Nat → Int} {L : Nat} {d : Nat}  {s : Pl} {Q : Option AV → Pl → Prop} (hd : 1 ≤ d) (k : Fr xs L T0 106 (d - 1) 8 0 [some (rf 2), none, none] [] s Q) : Ev xs L T0 106 d 8 [rf 2] s Q := Ev.of (by decide) _ rfl hd k
theorem f8_7 {xs : Nat → Int} {L : Nat} {d : Nat} {v1 : Int} {v2 : Int} {s : Pl} {P : Int → Pl → Prop} (h : ((s 1 1 ≤ v2 → P v1 s) ∧ (¬ (s 1 1 ≤ v2) → ((6 ≤ v2 → P v1 s) ∧ (¬ (6 ≤ v2) → (0 ≤ v2 ∧ v2 < 6) ∧ (0 ≤ v2 ∧ v2 < 6) ∧ Fr xs L T0 106 d 8 7 [some (rf 2), some (it (zw (v1 + (zw ((s 2 v2) * ((zgiv xs L 1).2 v2)))))), some (it (zw (v2 + 1)))] [] s (qi P)))))) : Fr xs L T0 106 d 8 7 [some (rf 2), some (it v1), some (it v2)] [] s (qi P) := by
  refine Fr.ildn (by decide +kernel : zi 8 7 = some (.iload_n 2, 1)) rfl ?_
  refine Fr.aldn (c := 2) (by decide +kernel : zi 8 8 = some (.aload_n 0, 1)) rfl ⟨by omega, by omega⟩ ?_
  refine Fr.gI (c := 1) (ci := 0) (k := 1) (t := 0) 1 (by decide +kernel : zi 8 9 = some (.getfield 46, 3)) (by decide +kernel) (by decide +kernel) (by decide +kernel) (by decide) rfl ?_
  refine Fr.if2 (q := 42) (by decide +kernel : zi 8 12 = some (.if_icmp .ge 30, 3)) (by decide +kernel) (fun g9 => ?_) (fun g9 => ?_)
  · have h := h.1 g9
    refine Fr.ildn (by decide +kernel : zi 8 42 = some (.iload_n 1, 1)) rfl ?_
    exact Fr.retI (by decide +kernel : zi 8 43 = some (.ireturn, 1)) (by decide +kernel) h
  · have h := h.2 g9
    refine Fr.ildn (by decide +kernel : zi 8 15 = some (.iload_n 2, 1)) rfl ?_
    refine Fr.bipush (by decide +kernel : zi 8 16 = some (.bipush 6, 2)) (by decide) ?_
    refine Fr.if2 (q := 42) (by decide +kernel : zi 8 18 = some (.if_icmp .ge 24, 3)) (by decide +kernel) (fun g9 => ?_) (fun g9 => ?_)
    · have h := h.1 g9
      refine Fr.ildn (by decide +kernel : zi 8 42 = some (.iload_n 1, 1)) rfl ?_
      exact Fr.retI (by decide +kernel : zi 8 43 = some (.ireturn, 1)) (by decide +kernel) h
    · have h := h.2 g9
      refine Fr.ildn (by decide +kernel : zi 8 21 = some (.iload_n 1, 1)) rfl ?_
      refine Fr.aldn (c := 2) (by decide +kernel : zi 8 22 = some (.aload_n 0, 1)) rfl ⟨by omega, by omega⟩ ?_
      refine Fr.gR (c := 1) (c2 := 3) (ci := 0) (k := 3) 3 (by decide +kernel : zi 8 23 = some (.getfield 9, 3)) (by decide +kernel) (by decide +kernel) (by decide +kernel) (by decide) rfl (fun q => q (1, 3, 3) (by decide +kernel)) ?_
      refine Fr.ildn (by decide +kernel : zi 8 26 = some (.iload_n 2, 1)) rfl ?_
      obtain ⟨⟨g0, g1⟩, h⟩ := h
      refine Fr.iald (c := 2) (N := 6) (by decide +kernel : zi 8 27 = some (.iaload, 1)) (by decide +kernel) (by decide) g0 g1 ?_
      refine Fr.gets (v := rf 100001) (by decide +kernel : zi 8 28 = some (.getstatic 69, 3)) (by decide +kernel) ?_
      refine Fr.ildn (by decide +kernel : zi 8 31 = some (.iload_n 2, 1)) rfl ?_
      obtain ⟨⟨g0, g1⟩, h⟩ := h
      refine Fr.giv (j := 1) (by decide +kernel : zi 8 32 = some (.iaload, 1)) (by decide) g0 (show _ < ((zgiv xs L 1).1 : Int) from g1) ?_
      refine Fr.imul (by decide +kernel : zi 8 33 = some (.imul, 1)) ?_
      refine Fr.iadd (by decide +kernel : zi 8 34 = some (.iadd, 1)) ?_
      refine Fr.istn (lv2 := [some (rf 2), some (it (zw (v1 + (zw ((s 2 v2) * ((zgiv xs L 1).2 v2)))))), some (it v2)]) (by decide +kernel : zi 8 35 = some (.istore_n 1, 1)) (Nat.le_of_ble_eq_true rfl) rfl ?_
      refine Fr.iinc (lv2 := [some (rf 2), some (it (zw (v1 + (zw ((s 2 v2) * ((zgiv xs L 1).2 v2)))))), some (it (zw (v2 + 1)))]) (by decide +kernel : zi 8 36 = some (.iinc 2 1, 3)) (Nat.le_of_ble_eq_true rfl) rfl rfl ?_
      refine Fr.goto (q := 7) (by decide +kernel : zi 8 39 = some (.goto (-32), 3)) (by decide +kernel) ?_
      exact h
