/-- the words at given places: each place less the one ahead -/
def zpk : List Nat → List Cond → List Cond
  | [], _ => []
  | _ :: _, [] => []
  | 0 :: g, w :: l => w :: zpk g l
  | (k + 1) :: g, _ :: l => zpk (k :: g) l
theorem zpk_mem : ∀ (l : List Cond) (g : List Nat), ∀ w ∈ zpk g l, w ∈ l
  | [], [], w, h => by simp [zpk] at h
  | [], _ :: _, w, h => by simp [zpk] at h
  | _ :: _, [], w, h => by simp [zpk] at h
  | a :: l, 0 :: g, w, h => by
    simp only [zpk, List.mem_cons] at h
    rcases h with h | h
    · exact List.mem_cons.mpr (Or.inl h)
    · exact List.mem_cons_of_mem _ (zpk_mem l g w h)
  | a :: l, (k + 1) :: g, w, h => List.mem_cons_of_mem _ (zpk_mem l (k :: g) w h)
def zgw : List Cond := lw_tbl.filter goodWord
theorem zgw_mem {w : Cond} (h : w ∈ lw_tbl) (hg : goodWord w = true) : w ∈ zgw := List.mem_filter.mpr ⟨h, hg⟩
theorem zgw_lw {w : Cond} (h : w ∈ zgw) : w ∈ lw_tbl := (List.mem_filter.mp h).1
theorem zgw_good {w : Cond} (h : w ∈ zgw) : goodWord w = true := (List.mem_filter.mp h).2
theorem zpk_all {α : Type} {L : List α} {f : α → Cond} {g : List Nat} (h : zpk g lw_tbl = L.map f) (hg : (L.map f).all goodWord = true) {e : α} (he : e ∈ L) : f e ∈ zgw := by
  have hm : f e ∈ L.map f := List.mem_map_of_mem he
  exact zgw_mem (zpk_mem _ _ _ (by rw [h]; exact hm)) (List.all_eq_true.mp hg _ hm)
theorem zpk_alw {α : Type} {L : List α} {f : α → Cond} {g : List Nat} (h : zpk g lw_tbl = L.map f) {e : α} (he : e ∈ L) : f e ∈ lw_tbl := zpk_mem _ _ _ (by rw [h]; exact List.mem_map_of_mem he)
def zw_code_w : Nat → Cond := fun y => .code (zm y).1 (zm y).2.1 (zm y).2.2.1 (zm y).2.2.2.1
def zw_code_1 : List Nat := [82, 0, 229, 9, 66, 16, 232, 234, 233, 235, 237, 236, 239, 17, 18, 10, 29, 243, 27]
set_option maxRecDepth 100000 in
set_option maxHeartbeats 4000000 in
theorem zw_code_p1 : zpk [22, 7, 3, 62, 17, 17, 37, 3, 5, 3, 2, 2, 4, 22, 3, 3, 3, 3, 3] tables_1_1 = zw_code_1.map zw_code_w := rfl
def zw_code_2 : List Nat := [241, 242, 244, 31, 32, 30, 240, 230, 28, 19, 20, 21, 22, 26, 11, 23, 24, 25, 12, 33, 53, 72]
set_option maxRecDepth 100000 in
set_option maxHeartbeats 4000000 in
theorem zw_code_p2 : zpk [2, 2, 3, 3, 5, 4, 3, 2, 3, 3, 3, 3, 3, 3, 3, 3, 3, 3, 3, 4, 72, 33] tables_1_2 = zw_code_2.map zw_code_w := rfl
def zw_code_3 : List Nat := [83, 126, 4, 84, 85, 6, 228, 86, 127, 87, 88, 89, 122, 34, 7, 129, 37, 39, 13, 14, 15, 231, 35, 36, 2, 38, 90, 3, 91, 5, 92, 93, 94, 8, 42, 47, 48, 95, 96, 73, 97, 98, 75, 74, 76, 77, 46, 78, 45, 79, 99]
set_option maxRecDepth 100000 in
set_option maxHeartbeats 4000000 in
theorem zw_code_p3 : zpk [22, 2, 3, 4, 3, 3, 2, 6, 2, 3, 3, 3, 3, 3, 3, 2, 5, 4, 3, 3, 2, 2, 4, 3, 3, 5, 4, 3, 3, 3, 4, 3, 3, 3, 5, 3, 3, 4, 4, 3, 3, 3, 3, 3, 5, 3, 4, 4, 3, 4, 4] tables_1_3 = zw_code_3.map zw_code_w := rfl
def zw_code_4 : List Nat := [41, 100, 44, 101, 124, 40, 54, 238, 50, 55, 58, 246, 57, 43, 59, 56, 123, 61, 60, 102, 103, 62, 104, 63, 64, 65, 105, 52, 51, 245, 106, 107, 108, 109, 110, 111, 112, 125, 113, 80, 49, 81, 114, 130, 115, 1, 116, 117, 128, 67, 118, 68, 71, 119]
set_option maxRecDepth 100000 in
set_option maxHeartbeats 4000000 in
theorem zw_code_p4 : zpk [2, 3, 3, 3, 3, 3, 3, 2, 3, 3, 4, 3, 7, 3, 5, 3, 4, 3, 4, 3, 4, 3, 3, 3, 3, 3, 4, 3, 3, 6, 3, 3, 5, 3, 3, 3, 3, 4, 3, 4, 5, 5, 3, 3, 3, 3, 4, 3, 2, 3, 4, 3, 3, 4] tables_1_4 = zw_code_4.map zw_code_w := rfl
def zw_code_5 : List Nat := [69, 120, 70, 121, 131, 136, 134, 132, 137, 139, 138, 142, 140, 141, 159, 146, 143, 145]
set_option maxRecDepth 100000 in
set_option maxHeartbeats 4000000 in
theorem zw_code_p5 : zpk [1, 4, 3, 4, 5, 173, 2, 2, 3, 3, 3, 3, 2, 3, 3, 3, 2, 3] tables_1_5 = zw_code_5.map zw_code_w := rfl
def zw_code_6 : List Nat := [144, 158, 149, 147, 152, 153, 154, 151, 150, 155, 156, 157, 148, 160, 167, 135, 164, 163, 162, 161, 165, 133, 166, 168, 169, 170, 171, 178, 176, 172, 173, 177, 174, 175, 179, 182, 183, 187, 184, 186, 185, 189, 188, 181, 180, 190, 198, 197, 195, 193, 191, 194, 192, 196, 199, 200, 202, 201, 205, 204]
set_option maxRecDepth 100000 in
set_option maxHeartbeats 4000000 in
theorem zw_code_p6 : zpk [2, 3, 3, 3, 3, 3, 3, 3, 3, 3, 3, 3, 3, 3, 3, 3, 3, 3, 3, 2, 3, 2, 3, 3, 3, 3, 3, 3, 3, 3, 3, 3, 3, 3, 3, 3, 3, 3, 3, 3, 3, 3, 3, 3, 3, 3, 3, 3, 3, 3, 3, 3, 3, 3, 3, 3, 3, 3, 3, 3] tables_1_6 = zw_code_6.map zw_code_w := rfl
def zw_code_7 : List Nat := [203, 206, 207, 208, 209, 210, 211, 212, 217, 216, 215, 213, 214, 218, 219, 220, 222, 221, 223, 224, 225, 227, 226]
set_option maxRecDepth 100000 in
set_option maxHeartbeats 4000000 in
theorem zw_code_p7 : zpk [0, 3, 3, 3, 3, 3, 3, 3, 3, 2, 4, 5, 3, 3, 4, 3, 3, 2, 3, 3, 3, 5, 2] tables_1_7 = zw_code_7.map zw_code_w := rfl
theorem zw_code_m1 {e : Nat} (he : e ∈ zw_code_1) : zw_code_w e ∈ lw_tbl := List.mem_append_right _ (List.mem_append_left _ (zpk_mem _ _ _ (by rw [zw_code_p1]; exact List.mem_map_of_mem he)))
theorem zw_code_m2 {e : Nat} (he : e ∈ zw_code_2) : zw_code_w e ∈ lw_tbl := List.mem_append_right _ (List.mem_append_right _ (List.mem_append_left _ (zpk_mem _ _ _ (by rw [zw_code_p2]; exact List.mem_map_of_mem he))))
theorem zw_code_m3 {e : Nat} (he : e ∈ zw_code_3) : zw_code_w e ∈ lw_tbl := List.mem_append_right _ (List.mem_append_right _ (List.mem_append_right _ (List.mem_append_left _ (zpk_mem _ _ _ (by rw [zw_code_p3]; exact List.mem_map_of_mem he)))))
theorem zw_code_m4 {e : Nat} (he : e ∈ zw_code_4) : zw_code_w e ∈ lw_tbl := List.mem_append_right _ (List.mem_append_right _ (List.mem_append_right _ (List.mem_append_right _ (List.mem_append_left _ (zpk_mem _ _ _ (by rw [zw_code_p4]; exact List.mem_map_of_mem he))))))
theorem zw_code_m5 {e : Nat} (he : e ∈ zw_code_5) : zw_code_w e ∈ lw_tbl := List.mem_append_right _ (List.mem_append_right _ (List.mem_append_right _ (List.mem_append_right _ (List.mem_append_right _ (List.mem_append_left _ (zpk_mem _ _ _ (by rw [zw_code_p5]; exact List.mem_map_of_mem he)))))))
theorem zw_code_m6 {e : Nat} (he : e ∈ zw_code_6) : zw_code_w e ∈ lw_tbl := List.mem_append_right _ (List.mem_append_right _ (List.mem_append_right _ (List.mem_append_right _ (List.mem_append_right _ (List.mem_append_right _ (List.mem_append_left _ (zpk_mem _ _ _ (by rw [zw_code_p6]; exact List.mem_map_of_mem he))))))))
theorem zw_code_m7 {e : Nat} (he : e ∈ zw_code_7) : zw_code_w e ∈ lw_tbl := List.mem_append_right _ (List.mem_append_right _ (List.mem_append_right _ (List.mem_append_right _ (List.mem_append_right _ (List.mem_append_right _ (List.mem_append_right _ (zpk_mem _ _ _ (by rw [zw_code_p7]; exact List.mem_map_of_mem he))))))))
theorem zw_code_in : ∀ y, y < 247 → (y ∈ zw_code_1 ∨ y ∈ zw_code_2 ∨ y ∈ zw_code_3 ∨ y ∈ zw_code_4 ∨ y ∈ zw_code_5 ∨ y ∈ zw_code_6 ∨ y ∈ zw_code_7) := by decide +kernel
theorem zw_code_lw {y : Nat} (hy : y < 247) : zw_code_w y ∈ lw_tbl := by
  rcases zw_code_in y hy with h | h | h | h | h | h | h
  · exact zw_code_m1 h
  · exact zw_code_m2 h
  · exact zw_code_m3 h
  · exact zw_code_m4 h
  · exact zw_code_m5 h
  · exact zw_code_m6 h
  · exact zw_code_m7 h
theorem zw_code_ok {y : Nat} (hy : y < 247) : zw_code_w y ∈ zgw := zgw_mem (zw_code_lw hy) rfl
def zw_inst : List Nat := [82, 0, 9, 66, 16, 232, 234, 233, 235, 17, 18, 10, 29, 243, 27, 244, 31, 32, 30, 240, 28, 19, 20, 21, 22, 26, 11, 23, 24, 25, 12, 33, 53, 72, 83, 4, 84, 85, 6, 86, 87, 88, 89, 122, 34, 7, 37, 39, 13, 35, 36, 2, 38, 90, 3, 91, 5, 92, 93, 94, 8, 42, 47, 48, 95, 96, 73, 97, 98, 75, 74, 76, 77, 46, 78, 45, 79, 99, 41, 100, 44, 101, 124, 40, 54, 50, 55, 58, 246, 57, 43, 59, 56, 123, 61, 60, 102, 103, 62, 104, 63, 64, 65, 105, 52, 51, 245, 106, 107, 108, 109, 110, 111, 112, 125, 113, 80, 49, 81, 114, 115, 1, 116, 117, 67, 118, 68, 71, 119, 69, 120, 70, 121, 131, 136, 137, 139, 138, 142, 141, 159, 146, 145, 158, 149, 147, 152, 153, 154, 151, 150, 155, 156, 157, 148, 160, 167, 135, 164, 163, 162, 165, 166, 168, 169, 170, 171, 178, 176, 172, 173, 177, 174, 175, 179, 182, 183, 187, 184, 186, 185, 189, 188, 181, 180, 190, 198, 197, 195, 193, 191, 194, 192, 196, 199, 200, 202, 201, 205, 204, 203, 206, 207, 208, 209, 210, 211, 212, 217, 215, 213, 214, 218, 219, 220, 222, 223, 224, 225, 227]
def zw_inst_w : Nat → Cond := fun y => .instanceMethod (zm y).1
set_option maxRecDepth 100000 in
theorem zw_inst_pk : zpk [105, 7, 66, 17, 17, 36, 3, 5, 3, 33, 3, 3, 4, 3, 3, 9, 3, 5, 4, 3, 6, 3, 3, 3, 3, 3, 2, 4, 3, 3, 2, 5, 72, 33, 73, 6, 4, 3, 3, 9, 6, 3, 3, 4, 2, 3, 8, 5, 2, 15, 2, 3, 5, 4, 3, 3, 3, 4, 3, 3, 3, 5, 3, 3, 4, 4, 3, 3, 3, 3, 4, 5, 3, 3, 5, 2, 5, 3, 3, 3, 3, 3, 4, 2, 3, 6, 4, 4, 3, 7, 2, 6, 3, 4, 2, 4, 3, 4, 3, 3, 3, 4, 3, 3, 3, 3, 6, 3, 3, 5, 3, 3, 3, 3, 5, 2, 4, 5, 6, 2, 7, 3, 4, 3, 6, 4, 3, 3, 4, 3, 4, 3, 4, 6, 172, 9, 3, 4, 2, 7, 2, 4, 6, 6, 3, 3, 3, 3, 3, 3, 3, 3, 3, 3, 3, 2, 3, 4, 3, 3, 3, 6, 6, 2, 3, 3, 3, 3, 4, 3, 3, 3, 3, 3, 2, 3, 3, 3, 4, 3, 3, 2, 4, 3, 3, 2, 3, 4, 3, 3, 3, 3, 3, 3, 2, 3, 3, 4, 2, 4, 3, 2, 3, 3, 3, 3, 3, 3, 3, 8, 5, 3, 2, 4, 3, 3, 6, 3, 3, 5] lw_tbl = zw_inst.map zw_inst_w := by decide +kernel
theorem zw_inst_gd : (zw_inst.map zw_inst_w).all goodWord = true := by decide +kernel
theorem zw_inst_ok {e : Nat} (h : e ∈ zw_inst) : zw_inst_w e ∈ zgw := zpk_all zw_inst_pk zw_inst_gd h
def zw_stat : List Nat := [229, 237, 236, 239, 241, 242, 230, 126, 228, 127, 129, 14, 15, 231, 238, 130, 128, 134, 132, 140, 143, 144, 161, 133, 216, 221, 226]
def zw_stat_w : Nat → Cond := fun y => .static (zm y).1
set_option maxRecDepth 100000 in
theorem zw_stat_pk : zpk [117, 153, 2, 4, 45, 2, 25, 233, 19, 9, 26, 18, 2, 2, 161, 165, 19, 222, 2, 18, 14, 6, 74, 6, 190, 34, 20] lw_tbl = zw_stat.map zw_stat_w := by decide +kernel
theorem zw_stat_gd : (zw_stat.map zw_stat_w).all goodWord = true := by decide +kernel
theorem zw_stat_ok {e : Nat} (h : e ∈ zw_stat) : zw_stat_w e ∈ zgw := zpk_all zw_stat_pk zw_stat_gd h
def zw_sel : List Nat := [29, 243, 27, 244, 31, 32, 30, 240, 28, 19, 20, 21, 22, 26, 23, 24, 25, 122, 39, 35, 74, 76, 77, 78, 79, 124, 55, 58, 246, 57, 59, 56, 123, 64, 65, 125, 81, 138, 141, 146, 145, 158, 149, 147, 152, 153, 154, 151, 150, 155, 156, 157, 148, 135, 164, 163, 162, 165, 166, 176, 172, 173, 177, 174, 175, 184, 186, 185, 188, 181, 180, 197, 195, 193, 191, 194, 192, 196, 201, 204, 203, 215, 213, 214, 232, 234, 233, 235, 17, 18, 10, 11, 12, 83, 4, 84, 85, 6, 86, 87, 88, 89, 34, 7, 37, 13, 36, 2, 38, 90, 3, 91, 5, 92, 93, 94, 8, 42, 47, 48, 95, 96, 73, 97, 98, 75, 46, 45, 99, 41, 100, 44, 101, 40, 54, 50, 43, 61, 60, 102, 103, 62, 104, 63, 105, 52, 51, 245, 106, 107, 108, 109, 110, 111, 112, 113, 80, 49, 114, 115, 1, 116, 117, 67, 118, 68, 71, 119, 69, 120, 70, 121, 136, 137, 139, 142, 159, 160, 167, 168, 169, 170, 171, 178, 179, 182, 183, 187, 189, 190, 198, 199, 200, 202, 205, 206, 207, 208, 209, 210, 211, 212, 217, 218, 219, 220, 222, 223, 224, 225, 227]
def zw_sel_w : Nat → Cond := fun y => .selects (zc_n (zm y).2.2.2.2.1) (zm y).1 (zm y).1
set_option maxRecDepth 100000 in
theorem zw_sel_pk : zpk [0, 0, 0, 0, 0, 0, 0, 0, 0, 0, 0, 0, 0, 0, 0, 0, 0, 0, 0, 0, 0, 0, 0, 0, 0, 0, 0, 0, 0, 0, 0, 0, 0, 0, 0, 0, 0, 0, 0, 0, 0, 0, 0, 0, 0, 0, 0, 0, 0, 0, 0, 0, 0, 0, 0, 0, 0, 0, 0, 0, 0, 0, 0, 0, 0, 0, 0, 0, 0, 0, 0, 0, 0, 0, 0, 0, 0, 0, 0, 0, 0, 0, 0, 0, 170, 3, 5, 3, 33, 3, 3, 71, 15, 186, 6, 4, 3, 3, 9, 6, 3, 3, 7, 3, 8, 8, 18, 3, 5, 4, 3, 3, 3, 4, 3, 3, 3, 5, 3, 3, 4, 4, 3, 3, 3, 3, 18, 8, 9, 3, 3, 3, 3, 7, 3, 6, 24, 18, 4, 3, 4, 3, 3, 3, 12, 3, 3, 6, 3, 3, 5, 3, 3, 3, 3, 8, 4, 5, 9, 7, 3, 4, 3, 6, 4, 3, 3, 4, 3, 4, 3, 4, 179, 9, 3, 7, 10, 65, 3, 33, 3, 3, 3, 3, 27, 3, 3, 3, 15, 15, 3, 31, 3, 3, 7, 11, 3, 3, 3, 3, 3, 3, 3, 21, 4, 3, 3, 6, 3, 3, 5] lw_tbl = zw_sel.map zw_sel_w := by decide +kernel
theorem zw_sel_gd : (zw_sel.map zw_sel_w).all goodWord = true := by decide +kernel
theorem zw_sel_ok {e : Nat} (h : e ∈ zw_sel) : zw_sel_w e ∈ zgw := zpk_all zw_sel_pk zw_sel_gd h
def zw_ini : List Nat := [15, 7, 0, 13, 1, 5, 2, 9, 10, 11, 3, 4, 6, 8, 12, 14]
def zw_ini_w : Nat → Cond := fun i => .initialized (zc_n i)
set_option maxRecDepth 100000 in
theorem zw_ini_pk : zpk [84, 0, 0, 0, 0, 0, 0, 0, 0, 0, 1, 0, 0, 0, 0, 0] lw_tbl = zw_ini.map zw_ini_w := by decide +kernel
theorem zw_ini_gd : (zw_ini.map zw_ini_w).all goodWord = true := by decide +kernel
theorem zw_ini_ok {e : Nat} (h : e ∈ zw_ini) : zw_ini_w e ∈ zgw := zpk_all zw_ini_pk zw_ini_gd h
def zw_ml : List (Nat × Nat × Nat) := [(15, 9, 82), (7, 9, 0), (0, 36, 229), (7, 35, 16), (7, 44, 232), (9, 335, 234), (7, 50, 233), (9, 492, 235), (9, 495, 237), (10, 9, 236), (9, 1059, 239), (7, 54, 17), (7, 58, 18), (2, 29, 10), (2, 37, 29), (2, 88, 243), (2, 92, 27), (2, 108, 241), (2, 111, 242), (2, 95, 244), (2, 114, 31), (2, 122, 232), (2, 128, 32), (2, 132, 233), (2, 117, 30), (2, 99, 240), (2, 103, 230), (2, 43, 28), (2, 46, 19), (2, 56, 20), (2, 64, 21), (2, 70, 22), (2, 73, 26), (2, 67, 11), (2, 76, 23), (2, 79, 24), (2, 82, 25), (2, 60, 12), (7, 71, 33), (7, 80, 53), (7, 89, 72), (15, 13, 83), (7, 94, 126), (7, 102, 4), (15, 18, 84), (15, 23, 85), (7, 112, 6), (7, 116, 228), (15, 27, 86), (7, 127, 127), (15, 32, 87), (15, 37, 88), (15, 41, 89), (7, 130, 122), (7, 134, 34), (3, 38, 7), (3, 60, 37), (3, 74, 39), (3, 78, 13), (1, 25, 230), (1, 31, 14), (1, 35, 15), (3, 91, 231), (3, 96, 230), (3, 67, 35), (3, 70, 36), (7, 137, 2), (7, 140, 36), (7, 144, 37), (7, 148, 38), (3, 99, 2), (15, 46, 90), (7, 151, 3), (15, 50, 91), (7, 155, 5), (0, 62, 2), (15, 54, 92), (15, 59, 93), (15, 63, 94), (7, 180, 8), (7, 183, 42), (7, 186, 47), (3, 132, 48), (3, 135, 228), (15, 67, 95), (7, 190, 48), (15, 71, 96), (7, 193, 73), (15, 75, 97), (15, 79, 98), (7, 196, 75), (6, 59, 74), (6, 35, 8), (6, 55, 42), (6, 62, 76), (6, 72, 77), (6, 89, 46), (6, 75, 47), (6, 79, 78), (6, 93, 45), (6, 66, 79), (6, 100, 38), (15, 83, 99), (7, 206, 41), (15, 87, 100), (7, 214, 44), (15, 91, 101), (7, 217, 124), (7, 230, 40), (7, 312, 54), (4, 25, 238), (4, 38, 50), (4, 44, 55), (4, 48, 58), (4, 52, 246), (4, 68, 231), (4, 74, 230), (4, 56, 42), (4, 65, 57), (4, 90, 43), (4, 94, 47), (4, 98, 45), (4, 106, 59), (4, 62, 56), (4, 78, 46), (7, 221, 123), (7, 224, 61), (4, 110, 40), (4, 113, 60), (15, 95, 102), (7, 227, 60), (15, 99, 103), (7, 233, 62), (15, 103, 104), (7, 237, 63), (4, 122, 64), (4, 125, 65), (4, 128, 38), (15, 107, 105), (7, 246, 52), (3, 153, 51), (3, 160, 245), (15, 111, 106), (15, 115, 107), (7, 249, 51), (7, 252, 245), (15, 119, 108), (15, 123, 109), (15, 127, 110), (15, 131, 111), (15, 135, 112), (7, 255, 45), (7, 258, 125), (15, 139, 113), (7, 262, 80), (6, 107, 49), (3, 143, 47), (6, 113, 230), (6, 118, 81), (15, 143, 114), (7, 268, 130), (15, 148, 115), (7, 271, 1), (15, 152, 116), (15, 156, 117), (7, 278, 128), (7, 281, 67), (5, 22, 238), (15, 160, 118), (7, 286, 68), (7, 287, 71), (5, 28, 68), (15, 164, 119), (7, 290, 69), (15, 169, 120), (7, 302, 70), (7, 305, 90), (15, 173, 121), (7, 309, 129), (15, 12, 131), (15, 17, 136), (8, 125, 134), (8, 118, 132), (15, 22, 137), (15, 26, 139), (8, 132, 138), (15, 31, 142), (8, 145, 140), (8, 148, 141), (15, 36, 159), (8, 186, 146), (8, 161, 143), (8, 164, 145), (8, 171, 144), (8, 221, 158), (8, 192, 149), (8, 183, 147), (8, 218, 152), (8, 189, 153), (8, 199, 154), (8, 202, 151), (8, 195, 150), (8, 206, 155), (8, 212, 156), (8, 215, 157), (8, 209, 148), (15, 40, 160), (15, 45, 167), (8, 237, 135), (8, 240, 164), (8, 228, 163), (8, 231, 162), (8, 224, 161), (8, 243, 165), (8, 234, 133), (8, 247, 166), (15, 49, 168), (15, 53, 169), (15, 58, 170), (15, 62, 171), (15, 66, 178), (8, 266, 176), (8, 253, 172), (8, 257, 173), (8, 260, 177), (8, 263, 174), (8, 250, 175), (15, 70, 179), (15, 74, 182), (15, 78, 183), (15, 82, 187), (8, 275, 184), (8, 278, 186), (8, 281, 185), (15, 86, 189), (8, 290, 188), (8, 293, 181), (8, 269, 180), (15, 90, 190), (15, 94, 198), (8, 317, 197), (8, 311, 195), (8, 305, 193), (8, 296, 191), (8, 308, 194), (8, 302, 192), (8, 314, 196), (15, 98, 199), (15, 102, 200), (15, 106, 202), (8, 320, 201), (15, 110, 205), (8, 326, 204), (8, 323, 203), (15, 114, 206), (15, 118, 207), (15, 122, 208), (15, 126, 209), (15, 130, 210), (15, 134, 211), (15, 138, 212), (15, 142, 217), (8, 343, 216), (8, 346, 215), (8, 336, 213), (8, 339, 214), (15, 147, 218), (15, 151, 219), (15, 155, 220), (15, 159, 222), (8, 364, 221), (15, 163, 223), (15, 168, 224), (15, 172, 225), (8, 369, 168), (15, 176, 227), (8, 373, 226)]
def zw_ml_w : (Nat × Nat × Nat) → Cond := fun e => .methodLink (zc_n e.1) e.2.1 (zm e.2.2).1
set_option maxRecDepth 100000 in
theorem zw_ml_pk : zpk [104, 7, 3, 98, 36, 3, 5, 3, 3, 2, 4, 21, 3, 3, 3, 3, 3, 3, 2, 2, 3, 4, 0, 3, 0, 3, 3, 2, 3, 3, 3, 3, 3, 3, 3, 3, 3, 3, 5, 72, 33, 73, 3, 2, 4, 3, 3, 3, 5, 3, 2, 3, 3, 3, 3, 3, 8, 4, 3, 3, 0, 2, 2, 2, 0, 3, 3, 3, 0, 0, 3, 0, 3, 3, 3, 3, 0, 3, 3, 3, 5, 3, 3, 3, 0, 3, 0, 3, 3, 3, 3, 3, 3, 0, 0, 3, 4, 3, 0, 3, 4, 3, 0, 3, 3, 3, 3, 3, 3, 3, 3, 2, 3, 4, 3, 3, 0, 1, 0, 3, 3, 0, 0, 3, 3, 0, 3, 3, 0, 3, 3, 0, 3, 3, 3, 3, 3, 3, 0, 3, 3, 6, 3, 3, 3, 0, 0, 3, 3, 3, 3, 3, 0, 3, 4, 5, 3, 0, 0, 3, 4, 2, 3, 4, 3, 3, 2, 3, 0, 3, 3, 3, 0, 3, 4, 3, 3, 0, 3, 2, 172, 3, 2, 2, 3, 3, 3, 3, 2, 3, 3, 3, 2, 3, 2, 3, 3, 3, 3, 3, 3, 3, 3, 3, 3, 3, 3, 3, 3, 3, 3, 3, 3, 2, 3, 2, 3, 3, 3, 3, 3, 3, 3, 3, 3, 3, 3, 3, 3, 3, 3, 3, 3, 3, 3, 3, 3, 3, 3, 3, 3, 3, 3, 3, 3, 3, 3, 3, 3, 3, 3, 3, 3, 3, 3, 3, 3, 3, 3, 3, 3, 3, 3, 3, 5, 3, 3, 4, 3, 3, 3, 2, 3, 3, 4, 0, 3] lw_tbl = zw_ml.map zw_ml_w := by decide +kernel
theorem zw_ml_gd : (zw_ml.map zw_ml_w).all goodWord = true := by decide +kernel
theorem zw_ml_ok {e : (Nat × Nat × Nat)} (h : e ∈ zw_ml) : zw_ml_w e ∈ zgw := zpk_all zw_ml_pk zw_ml_gd h
def zw_oi : List (Nat × Nat) := [(7, 1), (0, 3), (1, 3), (5, 3), (2, 3), (3, 3), (4, 3), (6, 3), (8, 1)]
def zw_oi_w : (Nat × Nat) → Cond := fun e => .methodLink (zc_n e.1) e.2 objectInit
set_option maxRecDepth 100000 in
theorem zw_oi_pk : zpk [107, 7, 66, 17, 17, 186, 72, 33, 553] lw_tbl = zw_oi.map zw_oi_w := by decide +kernel
theorem zw_oi_gd : (zw_oi.map zw_oi_w).all goodWord = true := by decide +kernel
theorem zw_oi_ok {e : (Nat × Nat)} (h : e ∈ zw_oi) : zw_oi_w e ∈ zgw := zpk_all zw_oi_pk zw_oi_gd h
def zw_ac : List (Nat × Nat) := [(3, 147), (0, 52), (7, 296)]
def zw_ac_w : (Nat × Nat) → Cond := fun e => .methodLink (zc_n e.1) e.2 arraycopyName
set_option maxRecDepth 100000 in
theorem zw_ac_pk : zpk [929, 78, 37] lw_tbl = zw_ac.map zw_ac_w := by decide +kernel
theorem zw_ac_gd : (zw_ac.map zw_ac_w).all goodWord = true := by decide +kernel
theorem zw_ac_ok {e : (Nat × Nat)} (h : e ∈ zw_ac) : zw_ac_w e ∈ zgw := zpk_all zw_ac_pk zw_ac_gd h
def zw_nl : List (Nat × Nat × Nat) := [(7, 31, 9), (7, 32, 66), (0, 58, 126), (0, 65, 129), (3, 84, 126), (6, 83, 126)]
def zw_nl_w : (Nat × Nat × Nat) → Cond := fun e => .methodLinkNest (zc_n e.1) e.2.1 (zm e.2.2).1 "OneForOne"
set_option maxRecDepth 100000 in
theorem zw_nl_pk : zpk [179, 17, 396, 49, 8, 125] lw_tbl = zw_nl.map zw_nl_w := by decide +kernel
theorem zw_nl_lw {e : (Nat × Nat × Nat)} (h : e ∈ zw_nl) : zw_nl_w e ∈ lw_tbl := zpk_alw zw_nl_pk h
def zw_fd : List (Nat × Nat × Nat × Nat) := [(0, 42, 0, 0), (7, 106, 0, 0), (3, 159, 0, 0), (0, 46, 0, 1), (3, 64, 0, 1), (7, 109, 0, 1), (4, 85, 0, 1), (0, 49, 0, 2), (7, 124, 0, 2), (0, 9, 0, 3), (7, 162, 0, 3), (3, 156, 0, 3), (0, 15, 0, 4), (7, 158, 0, 4), (0, 18, 0, 5), (3, 102, 0, 5), (7, 165, 0, 5), (0, 21, 0, 6), (3, 108, 0, 6), (7, 168, 0, 6), (0, 24, 0, 7), (3, 105, 0, 7), (7, 171, 0, 7), (0, 27, 0, 8), (7, 174, 0, 8), (3, 129, 0, 8), (0, 30, 0, 9), (7, 177, 0, 9), (3, 126, 0, 9), (0, 33, 0, 10), (3, 88, 0, 10), (1, 9, 1, 0), (1, 15, 1, 1), (1, 18, 1, 2), (1, 21, 1, 3), (5, 9, 5, 0), (7, 283, 5, 0), (5, 19, 5, 1), (5, 15, 5, 2), (7, 293, 5, 2), (2, 9, 2, 0), (7, 62, 2, 1), (2, 25, 2, 1), (2, 15, 2, 2), (2, 18, 2, 3), (2, 85, 2, 4), (2, 40, 2, 5), (2, 53, 2, 6), (2, 50, 2, 7), (2, 21, 2, 8), (2, 34, 2, 9), (3, 30, 3, 0), (6, 29, 3, 0), (4, 81, 3, 0), (3, 34, 3, 1), (3, 9, 3, 2), (3, 15, 3, 3), (6, 87, 3, 3), (4, 103, 3, 3), (3, 18, 3, 4), (3, 21, 3, 5), (3, 44, 3, 6), (3, 48, 3, 7), (3, 51, 3, 8), (3, 54, 3, 9), (3, 57, 3, 10), (6, 69, 3, 11), (3, 114, 3, 11), (7, 205, 3, 11), (3, 117, 3, 12), (3, 120, 3, 13), (4, 59, 3, 14), (6, 97, 3, 14), (3, 111, 3, 14), (6, 110, 3, 15), (3, 140, 3, 15), (3, 24, 3, 16), (6, 121, 3, 16), (3, 27, 3, 17), (6, 124, 3, 17), (4, 21, 4, 0), (4, 11, 4, 1), (4, 15, 4, 2), (4, 18, 4, 3), (4, 31, 4, 4), (7, 236, 4, 4), (4, 35, 4, 5), (4, 116, 4, 6), (7, 240, 4, 6), (4, 119, 4, 7), (7, 243, 4, 7), (6, 21, 6, 0), (6, 9, 6, 1), (6, 15, 6, 2), (6, 18, 6, 3), (6, 25, 6, 4), (7, 121, 6, 4), (6, 41, 6, 5), (7, 212, 6, 5), (6, 43, 6, 6), (7, 202, 6, 6), (6, 46, 6, 7), (7, 199, 6, 7), (6, 49, 6, 8), (7, 209, 6, 8), (6, 52, 6, 9), (7, 10, 7, 0), (7, 16, 7, 1), (7, 275, 7, 2), (7, 21, 7, 3), (7, 66, 7, 4), (7, 38, 7, 5), (7, 74, 7, 6), (7, 83, 7, 7), (7, 90, 7, 8), (7, 98, 7, 9), (7, 27, 7, 10), (8, 7, 8, 1), (8, 129, 8, 2), (8, 122, 8, 3), (8, 13, 8, 4), (8, 16, 8, 5), (8, 19, 8, 6), (8, 22, 8, 7), (8, 25, 8, 8), (8, 28, 8, 9), (8, 31, 8, 10), (8, 34, 8, 11), (8, 142, 8, 12), (8, 38, 8, 13), (8, 139, 8, 14), (8, 42, 8, 15), (8, 45, 8, 16), (8, 48, 8, 17), (8, 177, 8, 18), (8, 174, 8, 19), (8, 180, 8, 20), (8, 152, 8, 21), (8, 155, 8, 22), (8, 158, 8, 23), (8, 168, 8, 24), (8, 51, 8, 25), (8, 54, 8, 26), (8, 57, 8, 27), (8, 60, 8, 28), (8, 136, 8, 29), (8, 63, 8, 30), (8, 66, 8, 31), (8, 69, 8, 32), (8, 72, 8, 33), (8, 272, 8, 34), (8, 284, 8, 35), (8, 287, 8, 36), (8, 299, 8, 37), (8, 75, 8, 38), (8, 78, 8, 39), (8, 81, 8, 40), (8, 85, 8, 41), (8, 88, 8, 42), (8, 91, 8, 43), (8, 329, 8, 44), (8, 351, 8, 45), (8, 355, 8, 46), (8, 358, 8, 47), (8, 361, 8, 48), (8, 94, 8, 49), (8, 97, 8, 50), (8, 100, 8, 51), (8, 103, 8, 52), (8, 106, 8, 53), (8, 109, 8, 54), (8, 112, 8, 55)]
def zw_fd_w : (Nat × Nat × Nat × Nat) → Cond := fun e => .fieldLink (zc_n e.1) e.2.1 (zc_n e.2.2.1) (zf e.2.2.1 e.2.2.2).1 (zf e.2.2.1 e.2.2.2).2.1
set_option maxRecDepth 100000 in
theorem zw_fd_pk : zpk [119, 0, 0, 0, 0, 0, 0, 0, 0, 0, 0, 0, 0, 0, 0, 0, 0, 0, 0, 0, 0, 0, 0, 0, 0, 0, 0, 0, 0, 0, 0, 33, 0, 0, 0, 14, 0, 0, 0, 0, 13, 0, 0, 0, 0, 0, 0, 0, 0, 0, 0, 176, 0, 0, 0, 0, 0, 0, 0, 0, 0, 0, 0, 0, 0, 0, 0, 0, 0, 0, 0, 0, 0, 0, 0, 0, 0, 0, 0, 0, 44, 0, 0, 0, 0, 0, 0, 0, 0, 0, 0, 23, 0, 0, 0, 0, 0, 0, 0, 0, 0, 0, 0, 0, 0, 0, 21, 0, 0, 0, 0, 0, 0, 0, 0, 0, 0, 507, 0, 0, 0, 0, 0, 0, 0, 0, 0, 0, 0, 0, 0, 0, 0, 0, 0, 0, 0, 0, 0, 0, 0, 0, 0, 0, 0, 0, 0, 0, 0, 0, 0, 0, 0, 0, 0, 0, 0, 0, 0, 0, 0, 0, 0, 0, 0, 0, 0, 0, 0, 0, 0, 0] lw_tbl = zw_fd.map zw_fd_w := by decide +kernel
theorem zw_fd_gd : (zw_fd.map zw_fd_w).all goodWord = true := by decide +kernel
theorem zw_fd_ok {e : (Nat × Nat × Nat × Nat)} (h : e ∈ zw_fd) : zw_fd_w e ∈ zgw := zpk_all zw_fd_pk zw_fd_gd h
def zw_sf : List (Nat × Nat × String × String × String) := [(9, 38, "java/lang/String", "COMPACT_STRINGS", "Z"), (9, 1053, "jdk/internal/util/Preconditions", "SIOOBE_FORMATTER", "Ljava/util/function/BiFunction;"), (7, 315, "OneForOne", "KIND_ABOVE", "[I"), (0, 69, "OneForOne$Lake", "STEP", "[I"), (3, 123, "OneForOne$Lake", "STEP", "[I"), (9, 9, "java/lang/String", "value", "[B"), (9, 15, "java/lang/String", "coder", "B")]
def zw_sf_w : (Nat × Nat × String × String × String) → Cond := fun e => .fieldLink (zc_n e.1) e.2.1 e.2.2.1 e.2.2.2.1 e.2.2.2.2
set_option maxRecDepth 100000 in
theorem zw_sf_pk : zpk [260, 15, 370, 77, 67, 822, 0] lw_tbl = zw_sf.map zw_sf_w := by decide +kernel
theorem zw_sf_gd : (zw_sf.map zw_sf_w).all goodWord = true := by decide +kernel
theorem zw_sf_ok {e : (Nat × Nat × String × String × String)} (h : e ∈ zw_sf) : zw_sf_w e ∈ zgw := zpk_all zw_sf_pk zw_sf_gd h
def zw_cl : List (Nat × Nat × Nat) := [(15, 7, 7), (7, 7, 0), (7, 19, 1), (7, 25, 5), (7, 33, 2), (7, 69, 3), (7, 78, 4), (7, 87, 6), (15, 10, 8)]
def zw_cl_w : (Nat × Nat × Nat) → Cond := fun e => .classLink (zc_n e.1) e.2.1 (zc_n e.2.2)
set_option maxRecDepth 100000 in
theorem zw_cl_pk : zpk [102, 7, 63, 1, 36, 186, 72, 33, 553] lw_tbl = zw_cl.map zw_cl_w := by decide +kernel
theorem zw_cl_gd : (zw_cl.map zw_cl_w).all goodWord = true := by decide +kernel
theorem zw_cl_ok {e : (Nat × Nat × Nat)} (h : e ∈ zw_cl) : zw_cl_w e ∈ zgw := zpk_all zw_cl_pk zw_cl_gd h
def zw_in : List Nat := [7, 0, 1, 5, 2, 3, 4, 6, 8]
def zw_in_w : Nat → Cond := fun i => .instantiable (zc_n i) (zf_n i)
set_option maxRecDepth 100000 in
theorem zw_in_pk : zpk [103, 7, 66, 17, 17, 186, 72, 33, 553] lw_tbl = zw_in.map zw_in_w := by decide +kernel
theorem zw_in_gd : (zw_in.map zw_in_w).all goodWord = true := by decide +kernel
theorem zw_in_ok {e : Nat} (h : e ∈ zw_in) : zw_in_w e ∈ zgw := zpk_all zw_in_pk zw_in_gd h
def zw_ck : List (Nat × Nat × Int) := [(12, 265, 1431655765), (12, 266, 858993459), (12, 267, 252645135), (4, 77, 62500), (4, 102, 65535), (7, 261, 99999), (8, 342, 99999)]
def zw_ck_w : (Nat × Nat × Int) → Cond := fun e => .constant (zc_n e.1) e.2.1 (Int32.ofInt e.2.2)
set_option maxRecDepth 100000 in
theorem zw_ck_pk : zpk [610, 0, 0, 229, 10, 121, 584] lw_tbl = zw_ck.map zw_ck_w := by decide +kernel
theorem zw_ck_gd : (zw_ck.map zw_ck_w).all goodWord = true := by decide +kernel
theorem zw_ck_ok {e : (Nat × Nat × Int)} (h : e ∈ zw_ck) : zw_ck_w e ∈ zgw := zpk_all zw_ck_pk zw_ck_gd h
def zw_cq : List (Nat × Nat × Int) := [(6, 103, 48271), (6, 105, 2147483647), (7, 266, -4611686018427387904), (8, 332, 48271), (8, 334, 2147483647), (8, 349, -4611686018427387904), (8, 367, 3)]
def zw_cq_w : (Nat × Nat × Int) → Cond := fun e => .constantLong (zc_n e.1) e.2.1 (Int64.ofInt e.2.2)
set_option maxRecDepth 100000 in
theorem zw_cq_pk : zpk [980, 0, 14, 568, 0, 12, 27] lw_tbl = zw_cq.map zw_cq_w := by decide +kernel
theorem zw_cq_gd : (zw_cq.map zw_cq_w).all goodWord = true := by decide +kernel
theorem zw_cq_ok {e : (Nat × Nat × Int)} (h : e ∈ zw_cq) : zw_cq_w e ∈ zgw := zpk_all zw_cq_pk zw_cq_gd h
def zw_la : List (Nat × Nat) := [(0, 0), (0, 1), (0, 2), (0, 3), (0, 4), (0, 5), (0, 6), (0, 7), (0, 8), (0, 9), (0, 10), (1, 0), (1, 1), (1, 2), (1, 3), (5, 0), (5, 1), (5, 2), (2, 0), (2, 1), (2, 2), (2, 3), (2, 4), (2, 5), (2, 6), (2, 7), (2, 8), (2, 9), (3, 0), (3, 1), (3, 2), (3, 3), (3, 4), (3, 5), (3, 6), (3, 7), (3, 8), (3, 9), (3, 10), (3, 11), (3, 12), (3, 13), (3, 14), (3, 15), (3, 16), (3, 17), (4, 0), (4, 1), (4, 2), (4, 3), (4, 4), (4, 5), (4, 6), (4, 7), (6, 0), (6, 1), (6, 2), (6, 3), (6, 4), (6, 5), (6, 6), (6, 7), (6, 8), (6, 9), (7, 0), (7, 1), (7, 2), (7, 3), (7, 4), (7, 5), (7, 6), (7, 7), (7, 8), (7, 9), (7, 10), (8, 0), (8, 1), (8, 2), (8, 3), (8, 4), (8, 5), (8, 6), (8, 7), (8, 8), (8, 9), (8, 10), (8, 11), (8, 12), (8, 13), (8, 14), (8, 15), (8, 16), (8, 17), (8, 18), (8, 19), (8, 20), (8, 21), (8, 22), (8, 23), (8, 24), (8, 25), (8, 26), (8, 27), (8, 28), (8, 29), (8, 30), (8, 31), (8, 32), (8, 33), (8, 34), (8, 35), (8, 36), (8, 37), (8, 38), (8, 39), (8, 40), (8, 41), (8, 42), (8, 43), (8, 44), (8, 45), (8, 46), (8, 47), (8, 48), (8, 49), (8, 50), (8, 51), (8, 52), (8, 53), (8, 54), (8, 55)]
def zw_la_w : (Nat × Nat) → Cond := fun e => u_lay (zc_n e.1) (zf_T e.1) e.2
set_option maxRecDepth 100000 in
theorem zw_la_pk : zpk [150, 1, 1, 1, 1, 1, 1, 1, 1, 1, 1, 16, 1, 1, 1, 12, 1, 1, 19, 1, 1, 1, 1, 1, 1, 1, 1, 1, 186, 1, 1, 1, 1, 1, 1, 1, 1, 1, 1, 1, 1, 1, 1, 1, 1, 1, 20, 1, 1, 1, 1, 1, 1, 1, 23, 1, 1, 1, 1, 1, 1, 1, 1, 1, 13, 1, 1, 1, 1, 1, 1, 1, 1, 1, 1, 541, 1, 1, 1, 1, 1, 1, 1, 1, 1, 1, 1, 1, 1, 1, 1, 1, 1, 1, 1, 1, 1, 1, 1, 1, 1, 1, 1, 1, 1, 1, 1, 1, 1, 1, 1, 1, 1, 1, 1, 1, 1, 1, 1, 1, 1, 1, 1, 1, 1, 1, 1, 1, 1, 1, 1] lw_tbl = zw_la.map zw_la_w := by decide +kernel
theorem zw_la_gd : (zw_la.map zw_la_w).all goodWord = true := by decide +kernel
theorem zw_la_ok {e : (Nat × Nat)} (h : e ∈ zw_la) : zw_la_w e ∈ zgw := zpk_all zw_la_pk zw_la_gd h
def zw_mi : List Cond := [.initialized "java/lang/System", .instanceMethod objectInit, .code objectInit ⟨#[0xb1]⟩ 1 none, .arrayClass .int, .arrayClass .byte, .static arraycopyName, .native arraycopyName, .arrayClass .boolean]
def zw_mi_w : Cond → Cond := fun w => w
set_option maxRecDepth 100000 in
theorem zw_mi_pk : zpk [101, 6, 0, 63, 298, 457, 0, 303] lw_tbl = zw_mi.map zw_mi_w := by decide +kernel
theorem zw_mi_gd : (zw_mi.map zw_mi_w).all goodWord = true := by decide +kernel
theorem zw_mi_ok {e : Cond} (h : e ∈ zw_mi) : zw_mi_w e ∈ zgw := zpk_all zw_mi_pk zw_mi_gd h
def zw_ao : List String := ["OneForOne$Law", "OneForOne$Sheet"]
def zw_ao_w : String → Cond := fun c => .arrayOver (.object c)
set_option maxRecDepth 100000 in
theorem zw_ao_pk : zpk [175, 1] lw_tbl = zw_ao.map zw_ao_w := by decide +kernel
theorem zw_ao_lw {e : String} (h : e ∈ zw_ao) : zw_ao_w e ∈ lw_tbl := zpk_alw zw_ao_pk h
