/-! the references that never change: cell, place, code. Written by wip/whole/gen (layout.py) -/
def T0 : List (Nat × Int × Int) := [(0, 0, 2), (0, 1, 11), (0, 3, 20), (0, 5, 54), (0, 6, 58), (0, 7, 65), (0, 8, 69), (0, 10, 21), (1, 3, 3), (1, 4, 4), (1, 5, 5), (1, 6, 6), (1, 7, 7), (1, 8, 8), (1, 9, 9), (1, 10, 10), (10, 3, 12), (10, 4, 13), (10, 5, 14), (10, 6, 15), (10, 7, 16), (10, 8, 17), (10, 9, 18), (10, 10, 19), (21, 0, 23), (21, 1, 24), (21, 2, 25), (25, 0, 27), (25, 1, 28), (25, 2, 29), (29, 0, 31), (29, 1, 32), (29, 2, 33), (33, 0, 35), (33, 1, 36), (33, 2, 37), (37, 0, 39), (37, 1, 40), (37, 2, 41), (41, 0, 43), (41, 1, 44), (41, 2, 45), (45, 2, 47), (47, 2, 49), (49, 2, 51), (51, 2, 53), (53, 0, 55), (53, 2, 56), (53, 3, 57), (57, 0, 2), (57, 2, 59), (57, 3, 60), (57, 4, 61), (57, 5, 62), (57, 16, 63), (57, 17, 64), (64, 0, 58), (64, 1, 66), (64, 2, 67), (64, 3, 68), (68, 0, 58), (68, 1, 70), (68, 2, 71), (68, 3, 72), (72, 1, 74), (72, 4, 75), (72, 5, 76), (72, 6, 77), (72, 7, 78), (72, 8, 79), (72, 9, 80), (72, 10, 81), (72, 11, 82), (72, 15, 83), (72, 16, 84), (72, 17, 85), (72, 25, 86), (72, 26, 87), (72, 27, 88), (72, 28, 89), (72, 30, 90), (72, 31, 91), (72, 32, 92), (72, 33, 93), (72, 38, 94), (72, 39, 95), (72, 40, 96), (72, 41, 97), (72, 42, 98), (72, 43, 99), (72, 49, 100), (72, 50, 101), (72, 51, 102), (72, 52, 103), (72, 53, 104), (72, 54, 105), (72, 55, 106), (19, 0, 22), (19, 1, 26), (19, 2, 30), (19, 3, 34), (19, 4, 38), (19, 5, 42), (20, 0, 46), (20, 1, 48), (20, 2, 50), (20, 3, 52)]
def TR : List (Nat × Int × Int) := [(21, 0, 23), (21, 1, 24), (21, 2, 25), (25, 0, 27), (25, 1, 28), (25, 2, 29), (29, 0, 31), (29, 1, 32), (29, 2, 33), (33, 0, 35), (33, 1, 36), (33, 2, 37), (37, 0, 39), (37, 1, 40), (37, 2, 41), (41, 0, 43), (41, 1, 44), (41, 2, 45), (53, 0, 55), (53, 2, 56), (53, 3, 57), (19, 0, 22), (19, 1, 26), (19, 2, 30), (19, 3, 34), (19, 4, 38), (19, 5, 42)]
/-- enough for the reader and the laws -/
def KR (T : List (Nat × Int × Int)) (n : Nat) : Prop := 57 ≤ n ∧ (∀ e ∈ TR, e ∈ T) ∧ ∀ e ∈ T, e ∈ T0
theorem T0_ok : Tok T0 := by
  unfold Tok
  decide +kernel
theorem KR0 : KR T0 106 := ⟨by decide, by decide +kernel, fun _ h => h⟩
theorem zlaw_sh : ∀ t, t < 6 → zsh (21 + 4 * t) = (1, 4) ∧ zsh (22 + 4 * t) = (20, 160) ∧ zsh (23 + 4 * t) = (20, 3) ∧ zsh (24 + 4 * t) = (20, 40) := by decide +kernel
theorem zlaw_T0 : ∀ t : Nat, t < 6 → ((21 + 4 * t, 0, ((22 + 4 * t + 1 : Nat) : Int)) : Nat × Int × Int) ∈ TR := by decide +kernel
theorem zlaw_T1 : ∀ t : Nat, t < 6 → ((21 + 4 * t, 1, ((23 + 4 * t + 1 : Nat) : Int)) : Nat × Int × Int) ∈ TR := by decide +kernel
theorem zlaw_T2 : ∀ t : Nat, t < 6 → ((21 + 4 * t, 2, ((24 + 4 * t + 1 : Nat) : Int)) : Nat × Int × Int) ∈ TR := by decide +kernel
theorem zlaw_T3 : ∀ t : Nat, t < 6 → ((19, (t : Int), ((21 + 4 * t + 1 : Nat) : Int)) : Nat × Int × Int) ∈ TR := by decide +kernel
theorem zsheet_sh : ∀ t, t < 4 → zsh (45 + 2 * t) = (5, 3) ∧ zsh (46 + 2 * t) = (20, 40) := by decide +kernel
theorem zsheet_T : ∀ t : Nat, t < 4 → ((45 + 2 * t, 2, ((46 + 2 * t + 1 : Nat) : Int)) : Nat × Int × Int) ∈ T0 ∧ ((20, (t : Int), ((45 + 2 * t + 1 : Nat) : Int)) : Nat × Int × Int) ∈ T0 := by decide +kernel
theorem zlaw_ns : ∀ e ∈ T0, ¬ (e.1 = 53 ∧ e.2.1 = 8) ∧ ¬ (e.1 = 57 ∧ e.2.1 = 1) := by decide +kernel
variable {xs : Nat → Int} {L : Nat} {T : List (Nat × Int × Int)} {n d y pc : Nat} {lv lv2 : LVs} {st : List AV} {s : Pl} {Q : Option AV → Pl → Prop}
/-- fields, all that is asked in one -/
theorem Fr.gI {c idx ci k t : Nat} (ki : Int) (hi : zi y pc = some (.getfield idx, 3)) (hf : zfd (yo y) idx = some (ci, k, t)) (hb : (decide (t ≠ 1) && decide (k < zf_n ci) && decide (ci < 9)) = true) (hc : (zsh c).1 = ci) (hn : c < n) (hk : ((k : Nat) : Int) = ki) (kk : Fr xs L T n d y (pc + 3) lv (it (s c ki) :: st) s Q) : Fr xs L T n d y pc lv (rf (c + 1) :: st) s Q := by
  subst hk
  simp only [Bool.and_eq_true, decide_eq_true_eq] at hb
  exact Fr.getI hi hf hb.1.1 hc hb.1.2 hb.2 hn kk
theorem Fr.gR {c c2 idx ci k : Nat} (ki : Int) (hi : zi y pc = some (.getfield idx, 3)) (hf : zfd (yo y) idx = some (ci, k, 1)) (hb : (decide (k < zf_n ci) && decide (ci < 9)) = true) (hc : (zsh c).1 = ci) (hn : c < n) (hk : ((k : Nat) : Int) = ki) (hv : Sh T s → s c ki = (c2 : Int)) (kk : Fr xs L T n d y (pc + 3) lv (rf c2 :: st) s Q) : Fr xs L T n d y pc lv (rf (c + 1) :: st) s Q := by
  subst hk
  simp only [Bool.and_eq_true, decide_eq_true_eq] at hb
  exact Fr.getR hi hf hc hb.1 hb.2 hn hv kk
theorem Fr.pI {c idx ci k : Nat} {v : Int} (ki : Int) (hi : zi y pc = some (.putfield idx, 3)) (hf : zfd (yo y) idx = some (ci, k, 0)) (hb : (decide (k < zf_n ci) && decide (ci < 9) && !(zf ci k).2.2.1 && decide ((zf ci k).2.2.2 ≠ 1)) = true) (hc : (zsh c).1 = ci) (hn : c < n) (hk : ((k : Nat) : Int) = ki) (kk : Fr xs L T n d y (pc + 3) lv st (zup s c ki v) Q) : Fr xs L T n d y pc lv (it v :: rf (c + 1) :: st) s Q := by
  subst hk
  simp only [Bool.and_eq_true, decide_eq_true_eq, Bool.not_eq_true'] at hb
  exact Fr.putI hi hf (Or.inl rfl) hc hb.1.1.1 hb.1.1.2 hn hb.1.2 hb.2 kk
theorem Fr.pZ {c idx ci k : Nat} {v : Int} (ki : Int) (hi : zi y pc = some (.putfield idx, 3)) (hf : zfd (yo y) idx = some (ci, k, 2)) (hb : (decide (k < zf_n ci) && decide (ci < 9) && !(zf ci k).2.2.1 && decide ((zf ci k).2.2.2 ≠ 1)) = true) (hv : v = 0 ∨ v = 1) (hc : (zsh c).1 = ci) (hn : c < n) (hk : ((k : Nat) : Int) = ki) (kk : Fr xs L T n d y (pc + 3) lv st (zup s c ki v) Q) : Fr xs L T n d y pc lv (it v :: rf (c + 1) :: st) s Q := by
  subst hk
  simp only [Bool.and_eq_true, decide_eq_true_eq, Bool.not_eq_true'] at hb
  exact Fr.putI hi hf (Or.inr ⟨rfl, hv⟩) hc hb.1.1.1 hb.1.1.2 hn hb.1.2 hb.2 kk
theorem Fr.pR {c w idx ci k : Nat} (ki : Int) (hi : zi y pc = some (.putfield idx, 3)) (hf : zfd (yo y) idx = some (ci, k, 1)) (hb : (decide (k < zf_n ci) && decide (ci < 9) && !(zf ci k).2.2.1) = true) (hc : (zsh c).1 = ci) (hn : c < n) (hk : ((k : Nat) : Int) = ki) (hw : 1 ≤ w ∧ w ≤ n) (hns : ∀ e ∈ T, ¬ (e.1 = c ∧ e.2.1 = ki)) (kk : Fr xs L T n d y (pc + 3) lv st (zup s c ki w) Q) : Fr xs L T n d y pc lv (rf w :: rf (c + 1) :: st) s Q := by
  subst hk
  simp only [Bool.and_eq_true, decide_eq_true_eq, Bool.not_eq_true'] at hb
  exact Fr.putR hi hf hc hb.1.1 hb.1.2 hn hb.2 hw hns kk
