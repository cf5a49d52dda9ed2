theorem zi_okl_0 : zi_okL code ((zi_247.drop 0).take 30) = true := by decide +kernel
theorem zi_okl_1 : zi_okL code ((zi_247.drop 30).take 30) = true := by decide +kernel
theorem zi_okl_2 : zi_okL code ((zi_247.drop 60).take 30) = true := by decide +kernel
theorem zi_okl_3 : zi_okL code ((zi_247.drop 90).take 30) = true := by decide +kernel
theorem zi_okl_4 : zi_okL code ((zi_247.drop 120).take 30) = true := by decide +kernel
theorem zi_okl_5 : zi_okL code ((zi_247.drop 150).take 30) = true := by decide +kernel
theorem zi_okl_6 : zi_okL code ((zi_247.drop 180).take 30) = true := by decide +kernel
theorem zi_okl_7 : zi_okL code ((zi_247.drop 210).take 30) = true := by decide +kernel
theorem zi_okl_8 : zi_okL code ((zi_247.drop 240).take 30) = true := by decide +kernel
theorem zi_okl_9 : zi_okL code ((zi_247.drop 270).take 30) = true := by decide +kernel
theorem zi_okl_10 : zi_okL code ((zi_247.drop 300).take 30) = true := by decide +kernel
theorem zi_okl_11 : zi_okL code ((zi_247.drop 330).take 30) = true := by decide +kernel
theorem zi_okl_12 : zi_okL code ((zi_247.drop 360).take 30) = true := by decide +kernel
theorem zi_okl_13 : zi_okL code ((zi_247.drop 390).take 30) = true := by decide +kernel
theorem zi_okl_14 : zi_okL code ((zi_247.drop 420).take 30) = true := by decide +kernel
theorem zi_okl_15 : zi_okL code ((zi_247.drop 450).take 30) = true := by decide +kernel
theorem zi_okl_16 : zi_okL code ((zi_247.drop 480).take 30) = true := by decide +kernel
theorem zi_okl_17 : zi_okL code ((zi_247.drop 510).take 30) = true := by decide +kernel
theorem zi_okl_18 : zi_okL code ((zi_247.drop 540).take 30) = true := by decide +kernel
theorem zi_okl_19 : zi_okL code ((zi_247.drop 570).take 30) = true := by decide +kernel
theorem zi_okl_20 : zi_okL code ((zi_247.drop 600).take 30) = true := by decide +kernel
theorem zi_okl_21 : zi_okL code ((zi_247.drop 630).take 30) = true := by decide +kernel
theorem zi_okl_22 : zi_okL code ((zi_247.drop 660).take 30) = true := by decide +kernel
theorem zi_okl_23 : zi_okL code ((zi_247.drop 690).take 30) = true := by decide +kernel
theorem zi_okl_24 : zi_okL code ((zi_247.drop 720).take 30) = true := by decide +kernel
theorem zi_okl_25 : zi_okL code ((zi_247.drop 750).take 30) = true := by decide +kernel
theorem zi_okl_26 : zi_okL code ((zi_247.drop 780).take 30) = true := by decide +kernel
theorem zi_okl_27 : zi_okL code ((zi_247.drop 810).take 30) = true := by decide +kernel
theorem zi_okl_28 : zi_okL code ((zi_247.drop 840).take 30) = true := by decide +kernel
theorem zi_okl_29 : zi_okL code ((zi_247.drop 870).take 30) = true := by decide +kernel
theorem zi_okl_30 : zi_okL code ((zi_247.drop 900).take 30) = true := by decide +kernel
theorem zi_okl_31 : zi_okL code ((zi_247.drop 930).take 30) = true := by decide +kernel
theorem zi_okl_32 : zi_okL code ((zi_247.drop 960).take 30) = true := by decide +kernel
theorem zi_okl_33 : zi_okL code ((zi_247.drop 990).take 30) = true := by decide +kernel
theorem zi_okL_app {b : ByteArray} {l : List (Nat × Instr × Nat)} {k : Nat} (h1 : zi_okL b (l.take k) = true) (h2 : zi_okL b (l.drop k) = true) : zi_okL b l = true := by
  rw [← List.take_append_drop k l]
  simp only [zi_okL, List.all_append, Bool.and_eq_true] at *
  exact ⟨h1, h2⟩
theorem zi_okr_34 : zi_okL code (zi_247.drop 1020) = true := by decide +kernel
theorem zi_okr_33 : zi_okL code (zi_247.drop 990) = true := zi_okL_app (k := 30) zi_okl_33 (by rw [List.drop_drop]; exact zi_okr_34)
theorem zi_okr_32 : zi_okL code (zi_247.drop 960) = true := zi_okL_app (k := 30) zi_okl_32 (by rw [List.drop_drop]; exact zi_okr_33)
theorem zi_okr_31 : zi_okL code (zi_247.drop 930) = true := zi_okL_app (k := 30) zi_okl_31 (by rw [List.drop_drop]; exact zi_okr_32)
theorem zi_okr_30 : zi_okL code (zi_247.drop 900) = true := zi_okL_app (k := 30) zi_okl_30 (by rw [List.drop_drop]; exact zi_okr_31)
theorem zi_okr_29 : zi_okL code (zi_247.drop 870) = true := zi_okL_app (k := 30) zi_okl_29 (by rw [List.drop_drop]; exact zi_okr_30)
theorem zi_okr_28 : zi_okL code (zi_247.drop 840) = true := zi_okL_app (k := 30) zi_okl_28 (by rw [List.drop_drop]; exact zi_okr_29)
theorem zi_okr_27 : zi_okL code (zi_247.drop 810) = true := zi_okL_app (k := 30) zi_okl_27 (by rw [List.drop_drop]; exact zi_okr_28)
theorem zi_okr_26 : zi_okL code (zi_247.drop 780) = true := zi_okL_app (k := 30) zi_okl_26 (by rw [List.drop_drop]; exact zi_okr_27)
theorem zi_okr_25 : zi_okL code (zi_247.drop 750) = true := zi_okL_app (k := 30) zi_okl_25 (by rw [List.drop_drop]; exact zi_okr_26)
theorem zi_okr_24 : zi_okL code (zi_247.drop 720) = true := zi_okL_app (k := 30) zi_okl_24 (by rw [List.drop_drop]; exact zi_okr_25)
theorem zi_okr_23 : zi_okL code (zi_247.drop 690) = true := zi_okL_app (k := 30) zi_okl_23 (by rw [List.drop_drop]; exact zi_okr_24)
theorem zi_okr_22 : zi_okL code (zi_247.drop 660) = true := zi_okL_app (k := 30) zi_okl_22 (by rw [List.drop_drop]; exact zi_okr_23)
theorem zi_okr_21 : zi_okL code (zi_247.drop 630) = true := zi_okL_app (k := 30) zi_okl_21 (by rw [List.drop_drop]; exact zi_okr_22)
theorem zi_okr_20 : zi_okL code (zi_247.drop 600) = true := zi_okL_app (k := 30) zi_okl_20 (by rw [List.drop_drop]; exact zi_okr_21)
theorem zi_okr_19 : zi_okL code (zi_247.drop 570) = true := zi_okL_app (k := 30) zi_okl_19 (by rw [List.drop_drop]; exact zi_okr_20)
theorem zi_okr_18 : zi_okL code (zi_247.drop 540) = true := zi_okL_app (k := 30) zi_okl_18 (by rw [List.drop_drop]; exact zi_okr_19)
theorem zi_okr_17 : zi_okL code (zi_247.drop 510) = true := zi_okL_app (k := 30) zi_okl_17 (by rw [List.drop_drop]; exact zi_okr_18)
theorem zi_okr_16 : zi_okL code (zi_247.drop 480) = true := zi_okL_app (k := 30) zi_okl_16 (by rw [List.drop_drop]; exact zi_okr_17)
theorem zi_okr_15 : zi_okL code (zi_247.drop 450) = true := zi_okL_app (k := 30) zi_okl_15 (by rw [List.drop_drop]; exact zi_okr_16)
theorem zi_okr_14 : zi_okL code (zi_247.drop 420) = true := zi_okL_app (k := 30) zi_okl_14 (by rw [List.drop_drop]; exact zi_okr_15)
theorem zi_okr_13 : zi_okL code (zi_247.drop 390) = true := zi_okL_app (k := 30) zi_okl_13 (by rw [List.drop_drop]; exact zi_okr_14)
theorem zi_okr_12 : zi_okL code (zi_247.drop 360) = true := zi_okL_app (k := 30) zi_okl_12 (by rw [List.drop_drop]; exact zi_okr_13)
theorem zi_okr_11 : zi_okL code (zi_247.drop 330) = true := zi_okL_app (k := 30) zi_okl_11 (by rw [List.drop_drop]; exact zi_okr_12)
theorem zi_okr_10 : zi_okL code (zi_247.drop 300) = true := zi_okL_app (k := 30) zi_okl_10 (by rw [List.drop_drop]; exact zi_okr_11)
theorem zi_okr_9 : zi_okL code (zi_247.drop 270) = true := zi_okL_app (k := 30) zi_okl_9 (by rw [List.drop_drop]; exact zi_okr_10)
theorem zi_okr_8 : zi_okL code (zi_247.drop 240) = true := zi_okL_app (k := 30) zi_okl_8 (by rw [List.drop_drop]; exact zi_okr_9)
theorem zi_okr_7 : zi_okL code (zi_247.drop 210) = true := zi_okL_app (k := 30) zi_okl_7 (by rw [List.drop_drop]; exact zi_okr_8)
theorem zi_okr_6 : zi_okL code (zi_247.drop 180) = true := zi_okL_app (k := 30) zi_okl_6 (by rw [List.drop_drop]; exact zi_okr_7)
theorem zi_okr_5 : zi_okL code (zi_247.drop 150) = true := zi_okL_app (k := 30) zi_okl_5 (by rw [List.drop_drop]; exact zi_okr_6)
theorem zi_okr_4 : zi_okL code (zi_247.drop 120) = true := zi_okL_app (k := 30) zi_okl_4 (by rw [List.drop_drop]; exact zi_okr_5)
theorem zi_okr_3 : zi_okL code (zi_247.drop 90) = true := zi_okL_app (k := 30) zi_okl_3 (by rw [List.drop_drop]; exact zi_okr_4)
theorem zi_okr_2 : zi_okL code (zi_247.drop 60) = true := zi_okL_app (k := 30) zi_okl_2 (by rw [List.drop_drop]; exact zi_okr_3)
theorem zi_okr_1 : zi_okL code (zi_247.drop 30) = true := zi_okL_app (k := 30) zi_okl_1 (by rw [List.drop_drop]; exact zi_okr_2)
theorem zi_okr_0 : zi_okL code (zi_247.drop 0) = true := zi_okL_app (k := 30) zi_okl_0 (by rw [List.drop_drop]; exact zi_okr_1)
theorem zi_ok_247 : zi_okL code zi_247 = true := zi_okr_0
