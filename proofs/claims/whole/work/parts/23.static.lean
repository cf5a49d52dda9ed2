/-! the references that never change: cell, place, code. Written by wip/whole/gen (layout.py) -/
def T0 : List (Nat × Int × Int) := [(0, 0, 2), (0, 1, 11), (0, 3, 20), (0, 5, 54), (0, 6, 56), (0, 7, 63), (0, 8, 67), (0, 10, 21), (1, 3, 3), (1, 4, 4), (1, 5, 5), (1, 6, 6), (1, 7, 7), (1, 8, 8), (1, 9, 9), (1, 10, 10), (10, 3, 12), (10, 4, 13), (10, 5, 14), (10, 6, 15), (10, 7, 16), (10, 8, 17), (10, 9, 18), (10, 10, 19), (21, 0, 23), (21, 1, 24), (21, 2, 25), (25, 0, 27), (25, 1, 28), (25, 2, 29), (29, 0, 31), (29, 1, 32), (29, 2, 33), (33, 0, 35), (33, 1, 36), (33, 2, 37), (37, 0, 39), (37, 1, 40), (37, 2, 41), (41, 0, 43), (41, 1, 44), (41, 2, 45), (45, 2, 47), (47, 2, 49), (49, 2, 51), (51, 2, 53), (53, 0, 55), (55, 0, 2), (55, 2, 57), (55, 3, 58), (55, 4, 59), (55, 5, 60), (55, 16, 61), (55, 17, 62), (62, 0, 56), (62, 1, 64), (62, 2, 65), (62, 3, 66), (66, 0, 56), (66, 1, 68), (66, 2, 69), (66, 3, 70), (70, 1, 72), (70, 4, 73), (70, 5, 74), (70, 6, 75), (70, 7, 76), (70, 8, 77), (70, 9, 78), (70, 10, 79), (70, 11, 80), (70, 15, 81), (70, 16, 82), (70, 17, 83), (70, 25, 84), (70, 26, 85), (70, 27, 86), (70, 28, 87), (70, 30, 88), (70, 31, 89), (70, 32, 90), (70, 33, 91), (70, 38, 92), (70, 39, 93), (70, 40, 94), (70, 41, 95), (70, 42, 96), (70, 43, 97), (70, 49, 98), (70, 50, 99), (70, 51, 100), (70, 52, 101), (70, 53, 102), (70, 54, 103), (70, 55, 104), (19, 0, 22), (19, 1, 26), (19, 2, 30), (19, 3, 34), (19, 4, 38), (19, 5, 42), (20, 0, 46), (20, 1, 48), (20, 2, 50), (20, 3, 52)]
def TR : List (Nat × Int × Int) := [(21, 0, 23), (21, 1, 24), (21, 2, 25), (25, 0, 27), (25, 1, 28), (25, 2, 29), (29, 0, 31), (29, 1, 32), (29, 2, 33), (33, 0, 35), (33, 1, 36), (33, 2, 37), (37, 0, 39), (37, 1, 40), (37, 2, 41), (41, 0, 43), (41, 1, 44), (41, 2, 45), (53, 0, 55), (19, 0, 22), (19, 1, 26), (19, 2, 30), (19, 3, 34), (19, 4, 38), (19, 5, 42)]
/-- enough for the reader and the laws -/
def KR (T : List (Nat × Int × Int)) (n : Nat) : Prop := 55 ≤ n ∧ (∀ e ∈ TR, e ∈ T) ∧ ∀ e ∈ T, e ∈ T0
theorem T0_ok : Tok T0 := by
  unfold Tok
  decide +kernel
theorem KR0 : KR T0 104 := ⟨by decide, by decide +kernel, fun _ h => h⟩
theorem zlaw_sh : ∀ t, t < 6 → zsh (21 + 4 * t) = (1, 4) ∧ zsh (22 + 4 * t) = (20, 160) ∧ zsh (23 + 4 * t) = (20, 3) ∧ zsh (24 + 4 * t) = (20, 40) := by decide +kernel
theorem zlaw_T0 : ∀ t : Nat, t < 6 → ((21 + 4 * t, 0, ((22 + 4 * t + 1 : Nat) : Int)) : Nat × Int × Int) ∈ TR := by decide +kernel
theorem zlaw_T1 : ∀ t : Nat, t < 6 → ((21 + 4 * t, 1, ((23 + 4 * t + 1 : Nat) : Int)) : Nat × Int × Int) ∈ TR := by decide +kernel
theorem zlaw_T2 : ∀ t : Nat, t < 6 → ((21 + 4 * t, 2, ((24 + 4 * t + 1 : Nat) : Int)) : Nat × Int × Int) ∈ TR := by decide +kernel
theorem zlaw_T3 : ∀ t : Nat, t < 6 → ((19, (t : Int), ((21 + 4 * t + 1 : Nat) : Int)) : Nat × Int × Int) ∈ TR := by decide +kernel
theorem zsheet_sh : ∀ t, t < 4 → zsh (45 + 2 * t) = (5, 3) ∧ zsh (46 + 2 * t) = (20, 40) := by decide +kernel
theorem zsheet_T : ∀ t : Nat, t < 4 → ((45 + 2 * t, 2, ((46 + 2 * t + 1 : Nat) : Int)) : Nat × Int × Int) ∈ T0 ∧ ((20, (t : Int), ((45 + 2 * t + 1 : Nat) : Int)) : Nat × Int × Int) ∈ T0 := by decide +kernel
theorem zlaw_ns : ∀ e ∈ T0, ¬ (e.1 = 53 ∧ e.2.1 = 2) ∧ ¬ (e.1 = 55 ∧ e.2.1 = 1) := by decide +kernel
variable {xs : Nat → Int} {L : Nat} {T : List (Nat × Int × Int)} {n d y pc : Nat} {lv lv2 : LVs} {st : List AV} {s : Pl} {Q : Option AV → Pl → Prop}
/-- fields, all that is asked in one -/
theorem Fr.gI {c idx ci k t : Nat} (ki : Int) (hi : zi y pc = some (.getfield idx, 3)) (hf : zfd (yo y) idx = some (ci, k, t)) (hb : (decide (t ≠ 1) && decide (k < zf_n ci) && decide (ci < 9)) = true) (hc : (zsh c).1 = ci) (hn : c < n) (hk : ((k : Nat) : Int) = ki) (kk : Fr xs L T n d y (pc + 3) lv (it (s c ki) :: st) s Q) : Fr xs L T n d y pc lv (rf (c + 1) :: st) s Q := by
  subst hk
  simp only [Bool.and_eq_true, decide_eq_true_eq] at hb
  exact Fr.getI hi hf hb.1.1 hc hb.1.2 hb.2 hn kk
theorem Fr.gR {c c2 idx ci k : Nat} (ki : Int) (hi : zi y pc = some (.getfield idx, 3)) (hf : zfd (yo y) idx = some (ci, k, 1)) (hb : (decide (k < zf_n ci) && decide (ci < 9)) = true) (hc : (zsh c).1 = ci) (hn : c < n) (hk : ((k : Nat) : Int) = ki) (hv : Sh T s → s c ki = (c2 : Int)) (kk : Fr xs L T n d y (pc + 3) lv (rf c2 :: st) s Q) : Fr xs L T n d y pc lv (rf (c + 1) :: st) s Q := by
  subst hk
  simp only [Bool.and_eq_true, decide_eq_true_eq] at hb
  exact Fr.getR hi hf hc hb.1 hb.2 hn hv kk
theorem Fr.pI {c idx ci k : Nat} {v : Int} (ki : Int) (hi : zi y pc = some (.putfield idx, 3)) (hf : zfd (yo y) idx = some (ci, k, 0)) (hb : (decide (k < zf_n ci) && decide (ci < 9) && !(zf ci k).2.2.1 && decide ((zf ci k).2.2.2 ≠ 1)) = true) (hc : (zsh c).1 = ci) (hn : c < n) (hk : ((k : Nat) : Int) = ki) (kk : Fr xs L T n d y (pc + 3) lv st (zup s c ki v) Q) : Fr xs L T n d y pc lv (it v :: rf (c + 1) :: st) s Q := by
  subst hk
  simp only [Bool.and_eq_true, decide_eq_true_eq, Bool.not_eq_true'] at hb
  exact Fr.putI hi hf (Or.inl rfl) hc hb.1.1.1 hb.1.1.2 hn hb.1.2 hb.2 kk
theorem Fr.pZ {c idx ci k : Nat} {v : Int} (ki : Int) (hi : zi y pc = some (.putfield idx, 3)) (hf : zfd (yo y) idx = some (ci, k, 2)) (hb : (decide (k < zf_n ci) && decide (ci < 9) && !(zf ci k).2.2.1 && decide ((zf ci k).2.2.2 ≠ 1)) = true) (hv : v = 0 ∨ v = 1) (hc : (zsh c).1 = ci) (hn : c < n) (hk : ((k : Nat) : Int) = ki) (kk : Fr xs L T n d y (pc + 3) lv st (zup s c ki v) Q) : Fr xs L T n d y pc lv (it v :: rf (c + 1) :: st) s Q := by
  subst hk
  simp only [Bool.and_eq_true, decide_eq_true_eq, Bool.not_eq_true'] at hb
  exact Fr.putI hi hf (Or.inr ⟨rfl, hv⟩) hc hb.1.1.1 hb.1.1.2 hn hb.1.2 hb.2 kk
theorem Fr.pR {c w idx ci k : Nat} (ki : Int) (hi : zi y pc = some (.putfield idx, 3)) (hf : zfd (yo y) idx = some (ci, k, 1)) (hb : (decide (k < zf_n ci) && decide (ci < 9) && !(zf ci k).2.2.1) = true) (hc : (zsh c).1 = ci) (hn : c < n) (hk : ((k : Nat) : Int) = ki) (hw : 1 ≤ w ∧ w ≤ n) (hns : ∀ e ∈ T, ¬ (e.1 = c ∧ e.2.1 = ki)) (kk : Fr xs L T n d y (pc + 3) lv st (zup s c ki w) Q) : Fr xs L T n d y pc lv (rf w :: rf (c + 1) :: st) s Q := by
  subst hk
  simp only [Bool.and_eq_true, decide_eq_true_eq, Bool.not_eq_true'] at hb
  exact Fr.putR hi hf hc hb.1.1 hb.1.2 hn hb.2 hw hns kk
