/-! Java's own texts: length, charAt -/
section STR
variable {xs : Nat → Int} {L : Nat} {T : List (Nat × Int × Int)} {n d y pc : Nat} {lv : LVs} {st : List AV} {s : Pl} {Q : Option AV → Pl → Prop}
theorem Fr.sget {j idx : Nat} {v : AV} (hi : zi y pc = some (.getfield idx, 3)) (hf : zsfd j (yo y) idx = some v) (kk : Fr xs L T n d y (pc + 3) lv (v :: st) s Q) : Fr xs L T n d y pc lv (rf (100000 + j) :: st) s Q := by
  refine Fr.step (pc2 := pc + 3) (st2 := v :: st) hi rfl rfl ?_ kk
  unfold zstep
  have ha : zsA (yo y) (yi y) (.getfield idx) 3 (pc, lv, rf (100000 + j) :: st, n, s) = none := rfl
  have hb : zsB (yo y) (yi y) (.getfield idx) 3 (pc, lv, rf (100000 + j) :: st, n, s) = none := rfl
  have hcq : zsC (yo y) (yi y) (.getfield idx) 3 (pc, lv, rf (100000 + j) :: st, n, s) = none := rfl
  rw [ha, hb, hcq]
  simp only [zsD, rf]
  rw [if_pos (by omega), show 100000 + j - 100000 = j from by omega, hf]
theorem Fr.sbal {j : Nat} {i : Int} (hi : zi y pc = some (.baload, 1)) (hj : j = 4 ∨ j = 5) (h0 : 0 ≤ i) (h1 : i < ((zgiv xs L j).1 : Int)) (kk : Fr xs L T n d y (pc + 1) lv (it ((zgiv xs L j).2 i) :: st) s Q) : Fr xs L T n d y pc lv (it i :: rf (100000 + j) :: st) s Q := by
  refine Fr.step (pc2 := pc + 1) (st2 := it ((zgiv xs L j).2 i) :: st) hi rfl rfl ?_ kk
  unfold zstep
  have ha : zsA (yo y) (yi y) .baload 1 (pc, lv, it i :: rf (100000 + j) :: st, n, s) = none := rfl
  have hb : zsB (yo y) (yi y) .baload 1 (pc, lv, it i :: rf (100000 + j) :: st, n, s) = none := rfl
  have hcq : zsC (yo y) (yi y) .baload 1 (pc, lv, it i :: rf (100000 + j) :: st, n, s) = none := rfl
  rw [ha, hb, hcq]
  simp only [zsD, rf, it]
  rw [if_pos (by omega), if_pos (by omega), show 100000 + j - 100000 = j from by omega, if_pos ⟨h0, h1⟩]
theorem i234 {j : Nat} (hj : j = 2 ∨ j = 3) {P : Int → Pl → Prop} (hd : 1 ≤ d) (h : P 0 s) : Ev xs L T n d 234 [rf (100000 + j)] s (qi P) := by
  refine Ev.of (by decide) [some (rf (100000 + j))] rfl hd ?_
  refine Fr.gets (v := it 1) (by decide +kernel : zi 234 0 = some (.getstatic 38, 3)) (by decide +kernel) ?_
  refine Fr.if0 (q := 13) (by decide +kernel : zi 234 3 = some (.ifCond .eq 10, 3)) (by decide +kernel) (fun g => absurd g (show ¬ (1 : Int) = 0 by decide)) (fun _ => ?_)
  refine Fr.aldn (c := 100000 + j) (by decide +kernel : zi 234 6 = some (.aload_n 0, 1)) rfl ⟨by omega, by omega⟩ ?_
  refine Fr.sget (v := it 0) (by decide +kernel : zi 234 7 = some (.getfield 15, 3)) (by rcases hj with rfl | rfl <;> decide +kernel) ?_
  refine Fr.goto (q := 14) (by decide +kernel : zi 234 10 = some (.goto 4, 3)) (by decide +kernel) ?_
  exact Fr.retB (by decide +kernel : zi 234 14 = some (.ireturn, 1)) (by decide +kernel) (by decide) h
theorem i235 {j : Nat} (hj : j = 2 ∨ j = 3) {P : Int → Pl → Prop} (hd : 1 ≤ d) (h : P 1 s) : Ev xs L T n d 235 [rf (100000 + j)] s (qi P) := by
  refine Ev.of (by decide) [some (rf (100000 + j))] rfl hd ?_
  refine Fr.gets (v := it 1) (by decide +kernel : zi 235 0 = some (.getstatic 38, 3)) (by decide +kernel) ?_
  refine Fr.if0 (q := 17) (by decide +kernel : zi 235 3 = some (.ifCond .eq 14, 3)) (by decide +kernel) (fun g => absurd g (show ¬ (1 : Int) = 0 by decide)) (fun _ => ?_)
  refine Fr.aldn (c := 100000 + j) (by decide +kernel : zi 235 6 = some (.aload_n 0, 1)) rfl ⟨by omega, by omega⟩ ?_
  refine Fr.sget (v := it 0) (by decide +kernel : zi 235 7 = some (.getfield 15, 3)) (by rcases hj with rfl | rfl <;> decide +kernel) ?_
  refine Fr.if0 (q := 17) (by decide +kernel : zi 235 10 = some (.ifCond .ne 7, 3)) (by decide +kernel) (fun g => absurd rfl g) (fun _ => ?_)
  refine Fr.iconst (by decide +kernel : zi 235 13 = some (.iconst 1, 1)) (by decide) ?_
  refine Fr.goto (q := 18) (by decide +kernel : zi 235 14 = some (.goto 4, 3)) (by decide +kernel) ?_
  exact Fr.retZ (by decide +kernel : zi 235 18 = some (.ireturn, 1)) (by decide +kernel) (by decide) h
def slen (j : Nat) : Int := ((zgv_L.getD (j + 2) []).length : Nat)
def sch (j : Nat) (i : Int) : Int := (zgv_L.getD (j + 2) []).getD i.toNat 0
theorem i232 {j : Nat} (hj : j = 2 ∨ j = 3) {P : Int → Pl → Prop} (hd : 2 ≤ d) (h : P (slen j) s) : Ev xs L T n d 232 [rf (100000 + j)] s (qi P) := by
  refine Ev.of (by decide) [some (rf (100000 + j))] rfl (by omega) ?_
  refine Fr.aldn (c := 100000 + j) (by decide +kernel : zi 232 0 = some (.aload_n 0, 1)) rfl ⟨by omega, by omega⟩ ?_
  refine Fr.sget (v := rf (100000 + (j + 2))) (by decide +kernel : zi 232 1 = some (.getfield 9, 3)) (by rcases hj with rfl | rfl <;> decide +kernel) ?_
  refine Fr.glen (by decide +kernel : zi 232 4 = some (.arraylength, 1)) (by omega) ?_
  refine Fr.aldn (c := 100000 + j) (by decide +kernel : zi 232 5 = some (.aload_n 0, 1)) rfl ⟨by omega, by omega⟩ ?_
  refine Fr.callI (y2 := 234) (na := 1) (as := [rf (100000 + j)]) (rest := [it ((zgiv xs L (j + 2)).1 : Int)]) (by decide +kernel : zi 232 6 = some (.invokevirtual 335, 3)) rfl (by decide +kernel) (by decide +kernel) rfl rfl (zok_V rfl (by decide) (by decide +kernel) (by decide +kernel) (zrecv_s (by omega) (by decide +kernel)) rfl (Nat.le_of_ble_eq_true rfl)) (i234 hj (by omega) (P := fun r s1 => r = 0 ∧ s1 = s) ⟨rfl, rfl⟩) ?_
  rintro r s1 ⟨rfl, rfl⟩
  refine Fr.ishr (by decide +kernel : zi 232 9 = some (.ishr, 1)) ?_
  refine Fr.retI (by decide +kernel : zi 232 10 = some (.ireturn, 1)) (by decide +kernel) ?_
  have e0 : zshr (slen j) 0 = slen j := by rcases hj with rfl | rfl <;> decide +kernel
  have e : zshr ((zgiv xs L (j + 2)).1 : Int) 0 = slen j := by rcases hj with rfl | rfl <;> exact e0
  rw [e]; exact h
theorem i239 {i N : Int} {c : Nat} {P : Int → Pl → Prop} (hd : 1 ≤ d) (h0 : 0 ≤ i) (h1 : i < N) (h : P i s) : Ev xs L T n d 239 [it i, it N, rf c] s (qi P) := by
  refine Ev.of (by decide) [some (it i), some (it N), some (rf c)] rfl hd ?_
  refine Fr.ildn (by decide +kernel : zi 239 0 = some (.iload_n 0, 1)) rfl ?_
  refine Fr.if0 (q := 9) (by decide +kernel : zi 239 1 = some (.ifCond .lt 8, 3)) (by decide +kernel) (fun g => absurd g (show ¬ i < 0 by omega)) (fun _ => ?_)
  refine Fr.ildn (by decide +kernel : zi 239 4 = some (.iload_n 0, 1)) rfl ?_
  refine Fr.ildn (by decide +kernel : zi 239 5 = some (.iload_n 1, 1)) rfl ?_
  refine Fr.if2 (q := 16) (by decide +kernel : zi 239 6 = some (.if_icmp .lt 10, 3)) (by decide +kernel) (fun _ => ?_) (fun g => absurd h1 g)
  refine Fr.ildn (by decide +kernel : zi 239 16 = some (.iload_n 0, 1)) rfl ?_
  exact Fr.retI (by decide +kernel : zi 239 17 = some (.ireturn, 1)) (by decide +kernel) h
theorem i236 {i N : Int} {P : Pl → Prop} (hd : 2 ≤ d) (h0 : 0 ≤ i) (h1 : i < N) (h : P s) : Ev xs L T n d 236 [it i, it N] s (qv P) := by
  refine Ev.of (by decide) [some (it i), some (it N)] rfl (by omega) ?_
  refine Fr.ildn (by decide +kernel : zi 236 0 = some (.iload_n 0, 1)) rfl ?_
  refine Fr.ildn (by decide +kernel : zi 236 1 = some (.iload_n 1, 1)) rfl ?_
  refine Fr.gets (v := rf 100007) (by decide +kernel : zi 236 2 = some (.getstatic 1053, 3)) (by decide +kernel) ?_
  refine Fr.callI (y2 := 239) (na := 3) (as := [it i, it N, rf 100007]) (rest := []) (by decide +kernel : zi 236 5 = some (.invokestatic 1059, 3)) rfl (by decide +kernel) (by decide +kernel) rfl rfl (zok_S rfl (by decide) (by decide +kernel) rfl (Nat.le_of_ble_eq_true rfl)) (i239 (by omega) h0 h1 (P := fun r s1 => r = i ∧ s1 = s) ⟨rfl, rfl⟩) ?_
  rintro r s1 ⟨rfl, rfl⟩
  refine Fr.pop (by decide +kernel : zi 236 8 = some (.pop, 1)) rfl ?_
  exact Fr.retV (by decide +kernel : zi 236 9 = some (.return_, 1)) (by decide +kernel) h
theorem sch_ok : ∀ j, j = 2 ∨ j = 3 → ∀ i : Nat, i < 60 → zc16 (zand (sch j ((i : Nat) : Int)) 255) = sch j ((i : Nat) : Int) ∧ 0 ≤ sch j ((i : Nat) : Int) ∧ sch j ((i : Nat) : Int) ≤ 255 := by
  intro j hj
  rcases hj with rfl | rfl <;> decide +kernel
theorem slen_le {j : Nat} (hj : j = 2 ∨ j = 3) : slen j ≤ 60 := by rcases hj with rfl | rfl <;> decide +kernel
theorem i237 {j : Nat} (hj : j = 2 ∨ j = 3) {i : Int} {P : Int → Pl → Prop} (hd : 3 ≤ d) (h0 : 0 ≤ i) (h1 : i < slen j) (h : P (sch j i) s) : Ev xs L T n d 237 [rf (100000 + (j + 2)), it i] s (qi P) := by
  have h60 := slen_le hj
  have hN : ((zgiv xs L (j + 2)).1 : Int) = slen j := by rcases hj with rfl | rfl <;> rfl
  have hv : (zgiv xs L (j + 2)).2 i = sch j i := by rcases hj with rfl | rfl <;> rfl
  obtain ⟨k, rfl⟩ : ∃ k : Nat, i = ((k : Nat) : Int) := ⟨i.toNat, by omega⟩
  have ok := sch_ok j hj k (by omega)
  refine Ev.of (by decide) [some (rf (100000 + (j + 2))), some (it ((k : Nat) : Int))] rfl (by omega) ?_
  refine Fr.ildn (by decide +kernel : zi 237 0 = some (.iload_n 1, 1)) rfl ?_
  refine Fr.aldn (c := 100000 + (j + 2)) (by decide +kernel : zi 237 1 = some (.aload_n 0, 1)) rfl ⟨by omega, by omega⟩ ?_
  refine Fr.glen (by decide +kernel : zi 237 2 = some (.arraylength, 1)) (by omega) ?_
  rw [hN]
  refine Fr.callV (y2 := 236) (na := 2) (as := [it ((k : Nat) : Int), it (slen j)]) (rest := []) (by decide +kernel : zi 237 3 = some (.invokestatic 9, 3)) rfl (by decide +kernel) (by decide +kernel) rfl rfl (zok_S rfl (by decide) (by decide +kernel) rfl (Nat.le_of_ble_eq_true rfl)) (i236 (by omega) h0 h1 (P := fun s1 => s1 = s) rfl) ?_
  rintro s1 rfl
  refine Fr.aldn (c := 100000 + (j + 2)) (by decide +kernel : zi 237 6 = some (.aload_n 0, 1)) rfl ⟨by omega, by omega⟩ ?_
  refine Fr.ildn (by decide +kernel : zi 237 7 = some (.iload_n 1, 1)) rfl ?_
  refine Fr.sbal (by decide +kernel : zi 237 8 = some (.baload, 1)) (by omega) h0 (by rw [hN]; exact h1) ?_
  rw [hv]
  refine Fr.sipush (by decide +kernel : zi 237 9 = some (.sipush 255, 3)) (by decide) ?_
  refine Fr.iand (by decide +kernel : zi 237 12 = some (.iand, 1)) ?_
  refine Fr.i2c (by decide +kernel : zi 237 13 = some (.i2c, 1)) ?_
  rw [ok.1]
  exact Fr.retC (by decide +kernel : zi 237 14 = some (.ireturn, 1)) (by decide +kernel) ⟨by omega, by omega⟩ h
theorem i233 {j : Nat} (hj : j = 2 ∨ j = 3) {i : Int} {P : Int → Pl → Prop} (hd : 4 ≤ d) (h0 : 0 ≤ i) (h1 : i < slen j) (h : P (sch j i) s) : Ev xs L T n d 233 [rf (100000 + j), it i] s (qi P) := by
  have h60 := slen_le hj
  obtain ⟨k, rfl⟩ : ∃ k : Nat, i = ((k : Nat) : Int) := ⟨i.toNat, by omega⟩
  have ok := sch_ok j hj k (by omega)
  refine Ev.of (by decide) [some (rf (100000 + j)), some (it ((k : Nat) : Int))] rfl (by omega) ?_
  refine Fr.aldn (c := 100000 + j) (by decide +kernel : zi 233 0 = some (.aload_n 0, 1)) rfl ⟨by omega, by omega⟩ ?_
  refine Fr.callI (y2 := 235) (na := 1) (as := [rf (100000 + j)]) (rest := []) (by decide +kernel : zi 233 1 = some (.invokevirtual 492, 3)) rfl (by decide +kernel) (by decide +kernel) rfl rfl (zok_V rfl (by decide) (by decide +kernel) (by decide +kernel) (zrecv_s (by omega) (by decide +kernel)) rfl (Nat.le_of_ble_eq_true rfl)) (i235 hj (by omega) (P := fun r s1 => r = 1 ∧ s1 = s) ⟨rfl, rfl⟩) ?_
  rintro r s1 ⟨rfl, rfl⟩
  refine Fr.if0 (q := 16) (by decide +kernel : zi 233 4 = some (.ifCond .eq 12, 3)) (by decide +kernel) (fun g => absurd g (show ¬ (1 : Int) = 0 by decide)) (fun _ => ?_)
  refine Fr.aldn (c := 100000 + j) (by decide +kernel : zi 233 7 = some (.aload_n 0, 1)) rfl ⟨by omega, by omega⟩ ?_
  refine Fr.sget (v := rf (100000 + (j + 2))) (by decide +kernel : zi 233 8 = some (.getfield 9, 3)) (by rcases hj with rfl | rfl <;> decide +kernel) ?_
  refine Fr.ildn (by decide +kernel : zi 233 11 = some (.iload_n 1, 1)) rfl ?_
  refine Fr.callI (y2 := 237) (na := 2) (as := [rf (100000 + (j + 2)), it ((k : Nat) : Int)]) (rest := []) (by decide +kernel : zi 233 12 = some (.invokestatic 495, 3)) rfl (by decide +kernel) (by decide +kernel) rfl rfl (zok_S rfl (by decide) (by decide +kernel) rfl (Nat.le_of_ble_eq_true rfl)) (i237 hj (by omega) h0 h1 (P := fun r s2 => r = sch j ((k : Nat) : Int) ∧ s2 = s1) ⟨rfl, rfl⟩) ?_
  rintro r s2 ⟨rfl, rfl⟩
  exact Fr.retC (by decide +kernel : zi 233 15 = some (.ireturn, 1)) (by decide +kernel) ⟨by omega, by omega⟩ h
end STR
