/-! the class's own constructor, whole -/
section STA
variable {xs : Nat → Int} {L d : Nat}
theorem sl48 : slen 2 = 48 := by decide +kernel
theorem i17g {T : List (Nat × Int × Int)} {n n0 i : Nat} {bs : Nat → Int} {s s0 : Pl} {P : Pl → Prop} (hK : KR T n) (hd : 1 ≤ d) (h160 : n0 + i < 160) (hf : FT 53 1 54 id bs n0 i s0 s) (h : ∀ s1, FT 53 1 54 id bs n0 (i + 1) s0 s1 → P s1) : Ev xs L T n d 17 [rf 54, it (bs i)] s (qv P) := by
  have e : s 53 1 = ((n0 + i : Nat) : Int) := by rw [hf 53 1, if_pos ⟨rfl, rfl⟩]
  have e2 : zup s 54 (s 53 1) (bs i) 53 1 = ((n0 + i : Nat) : Int) := by rw [zune _ _ _ (by decide)]; exact e
  have z1 : zw (((n0 + i : Nat) : Int) + 1) = ((n0 + (i + 1) : Nat) : Int) := by rw [zw_id (by omega) (by omega)]; omega
  refine e17 hd (f17_0 hK ⟨fun z => absurd z (by omega), fun _ => ⟨fun z => absurd z (by omega), fun _ => ⟨by omega, ?_⟩⟩⟩)
  rw [e2, e, z1]
  exact h _ (hf.step (by decide))
theorem t1_05 : ((0, 5, 54) : Nat × Int × Int) ∈ T1 := by decide +kernel
theorem t1_03 : ((0, 3, 20) : Nat × Int × Int) ∈ T1 := by decide +kernel
theorem t1_00 : ((0, 0, 2) : Nat × Int × Int) ∈ T1 := by decide +kernel
theorem t1_190 : ((19, 0, 22) : Nat × Int × Int) ∈ T1 := by decide +kernel
theorem l82 {s0 : Pl} {Q : Option AV → Nat → Pl → Prop} (hd : 5 ≤ d) (k : ∀ s1, FT 53 1 54 id (fun i : Nat => sch 2 ((i : Nat) : Int)) 0 48 s0 s1 → Sh T1 s1 → Gr xs L d 82 150 [some (rf 1), some (it 48)] [] 57 s1 Q) : ∀ (j i : Nat) (s : Pl), i + j = 48 → FT 53 1 54 id (fun i : Nat => sch 2 ((i : Nat) : Int)) 0 i s0 s → Sh T1 s → Gr xs L d 82 122 [some (rf 1), some (it ((i : Nat) : Int))] [] 57 s Q := by
  intro j
  induction j with
  | zero =>
    intro i s hi hf hs
    obtain rfl : i = 48 := hi
    refine Cr.ildn (v := ((48 : Nat) : Int)) (by decide +kernel : zi 82 122 = some (.iload_n 1, 1)) rfl ?_
    refine Cr.ldc (v := rf 100002) (by decide +kernel : zi 82 123 = some (.ldc 42, 2)) (by decide +kernel) ?_
    refine Cr.callJ (v := slen 2) (y2 := 232) (na := 1) (as := [rf 100002]) (rest := [it ((48 : Nat) : Int)]) (by decide +kernel : zi 82 125 = some (.invokevirtual 44, 3)) rfl (by decide +kernel) (by decide +kernel) rfl rfl (zok_V rfl (by decide) (by decide +kernel) (by decide +kernel) (zrecv_s (Or.inl rfl) (by decide +kernel)) rfl (Nat.le_of_ble_eq_true rfl)) (((i232 (T := T1) (n := 57) (j := 2) (s := s) (Or.inl rfl) (by omega) (P := fun r s2 => r = slen 2 ∧ s2 = s) ⟨rfl, rfl⟩) T1_ok hs).mono fun r n2 s2 h => by
      obtain ⟨e1, _, w, e2, e3, e4⟩ := h
      exact ⟨by rw [e2, e3], e1, e4⟩) ?_
    rw [sl48]
    refine Cr.if2t (q := 150) (by decide +kernel : zi 82 128 = some (.if_icmp .ge 22, 3)) (by decide +kernel) (show (48 : Int) ≤ ((48 : Nat) : Int) by decide) ?_
    exact k s hf hs
  | succ j ih =>
    intro i s hi hf hs
    have e05 : s 0 5 = ((54 : Nat) : Int) := hs _ t1_05
    have ei : (fun i : Nat => sch 2 ((i : Nat) : Int)) i = sch 2 ((i : Nat) : Int) := rfl
    refine Cr.ildn (v := ((i : Nat) : Int)) (by decide +kernel : zi 82 122 = some (.iload_n 1, 1)) rfl ?_
    refine Cr.ldc (v := rf 100002) (by decide +kernel : zi 82 123 = some (.ldc 42, 2)) (by decide +kernel) ?_
    refine Cr.callJ (v := slen 2) (y2 := 232) (na := 1) (as := [rf 100002]) (rest := [it ((i : Nat) : Int)]) (by decide +kernel : zi 82 125 = some (.invokevirtual 44, 3)) rfl (by decide +kernel) (by decide +kernel) rfl rfl (zok_V rfl (by decide) (by decide +kernel) (by decide +kernel) (zrecv_s (Or.inl rfl) (by decide +kernel)) rfl (Nat.le_of_ble_eq_true rfl)) (((i232 (T := T1) (n := 57) (j := 2) (s := s) (Or.inl rfl) (by omega) (P := fun r s2 => r = slen 2 ∧ s2 = s) ⟨rfl, rfl⟩) T1_ok hs).mono fun r n2 s2 h => by
      obtain ⟨e1, _, w, e2, e3, e4⟩ := h
      exact ⟨by rw [e2, e3], e1, e4⟩) ?_
    rw [sl48]
    refine Cr.if2f (q := 150) (by decide +kernel : zi 82 128 = some (.if_icmp .ge 22, 3)) (by decide +kernel) (show ¬ (48 : Int) ≤ ((i : Nat) : Int) by omega) ?_
    refine Cr.aldn (c := 1) (by decide +kernel : zi 82 131 = some (.aload_n 0, 1)) rfl ⟨by decide, by decide⟩ ?_
    refine Cr.getR (c := 0) (c2 := 54) (ci := 7) (k := 5) 5 (by decide +kernel : zi 82 132 = some (.getfield 38, 3)) (by decide +kernel) rfl (by decide +kernel) (by decide +kernel) (by decide) rfl e05 ?_
    refine Cr.ldc (v := rf 100002) (by decide +kernel : zi 82 135 = some (.ldc 42, 2)) (by decide +kernel) ?_
    refine Cr.ildn (v := ((i : Nat) : Int)) (by decide +kernel : zi 82 137 = some (.iload_n 1, 1)) rfl ?_
    refine Cr.callJ (v := sch 2 ((i : Nat) : Int)) (y2 := 233) (na := 2) (as := [rf 100002, it ((i : Nat) : Int)]) (rest := [rf 54]) (by decide +kernel : zi 82 138 = some (.invokevirtual 50, 3)) rfl (by decide +kernel) (by decide +kernel) rfl rfl (zok_V rfl (by decide) (by decide +kernel) (by decide +kernel) (zrecv_s (Or.inl rfl) (by decide +kernel)) rfl (Nat.le_of_ble_eq_true rfl)) (((i233 (T := T1) (n := 57) (j := 2) (s := s) (Or.inl rfl) (by omega) (by omega) (by rw [sl48]; omega) (P := fun r s2 => r = sch 2 ((i : Nat) : Int) ∧ s2 = s) ⟨rfl, rfl⟩) T1_ok hs).mono fun r n2 s2 h => by
      obtain ⟨e1, _, w, e2, e3, e4⟩ := h
      exact ⟨by rw [e2, e3], e1, e4⟩) ?_
    refine Cr.callV (y2 := 17) (na := 2) (as := [rf 54, it (sch 2 ((i : Nat) : Int))]) (rest := []) (by decide +kernel : zi 82 141 = some (.invokevirtual 54, 3)) rfl (by decide +kernel) (by decide +kernel) rfl rfl (zok_V rfl (by decide) (by decide +kernel) (by decide +kernel) (zrecv_c (c := 53) (by decide) (by decide +kernel)) rfl (Nat.le_of_ble_eq_true rfl)) ((i17g (T := T1) (n := 57) (n0 := 0) (i := i) (bs := fun i : Nat => sch 2 ((i : Nat) : Int)) (s0 := s0) (P := fun s2 => FT 53 1 54 id (fun i : Nat => sch 2 ((i : Nat) : Int)) 0 (i + 1) s0 s2) KR1 (by omega) (by omega) hf (fun s2 h => h)) T1_ok hs) (fun r n2 s2 h => ?_)
    obtain ⟨e1, hs2, e2, hf2⟩ := h
    subst e1
    subst e2
    refine Cr.iinc (v := ((i : Nat) : Int)) (lv2 := [some (rf 1), some (it ((i + 1 : Nat) : Int))]) (by decide +kernel : zi 82 144 = some (.iinc 1 1, 3)) (Nat.le_of_ble_eq_true rfl) rfl ?_ ?_
    · rw [zw_id (by omega) (by omega)]; rfl
    refine Cr.goto (q := 122) (by decide +kernel : zi 82 147 = some (.goto (-25), 3)) (by decide +kernel) ?_
    exact ih (i + 1) s2 (by omega) hf2 hs2
def hr9 : List Int := [0, 1, 2, 3, 1, 0, 1, 2, 2, 1, 0, 1, 3, 2, 1, 0]
def F82 (s : Pl) : Prop := (∀ e ∈ T0, e.1 < 72 → s e.1 e.2.1 = e.2.2) ∧ (s 0 2 = 0 ∧ s 0 4 = 1 ∧ s 0 9 = 0 ∧ s 1 0 = 0 ∧ s 1 1 = 0 ∧ s 1 2 = 0 ∧ s 53 1 = 0 ∧ s 68 4 = 0) ∧ (∀ q : Nat, q < 4 → s (45 + 2 * q) 0 = -1 ∧ s (46 + 2 * q) = fun _ => 0) ∧ (∀ k : Nat, k < 16 → s 9 ((k : Nat) : Int) = hr9.getD k 0) ∧ vX0 s
/-- what stands in a place behind the constructor -/
def v82 (c : Nat) (i : Int) : Option Int := pgo (pl82 ++ pl82b) c i (some 0)
theorem pgo_app {c : Nat} {i : Int} (l2 : List (Nat × Option (Int × Int))) : ∀ (l : List (Nat × Option (Int × Int))) (o : Option Int), pgo (l ++ l2) c i o = pgo l2 c i (pgo l c i o)
  | [], _ => rfl
  | (_, none) :: r, _ => pgo_app l2 r _
  | (_, some _) :: r, _ => pgo_app l2 r _
def g82 (c : Nat) (i : Int) : Bool := !(decide (c = 53) && decide (i = 1)) && !(decide (c = 53) && decide (4 ≤ i) && decide (i ≤ 9)) && !(decide (c = 21) && decide (i = 3)) && !decide (c = 22) && !decide (c = 23) && !decide (c = 54) && !decide (c = 55) && !decide (c = 56)
theorem v82_T : (T0.all fun e => !decide (e.1 < 72) || (g82 e.1 e.2.1 && decide (v82 e.1 e.2.1 = some e.2.2))) = true := by decide +kernel
theorem v82_s : (([(0, 2, 0), (0, 4, 1), (0, 9, 0), (1, 0, 0), (1, 1, 0), (1, 2, 0), (68, 4, 0), (45, 0, -1), (47, 0, -1), (49, 0, -1), (51, 0, -1)] : List (Nat × Int × Int)).all fun e => g82 e.1 e.2.1 && decide (v82 e.1 e.2.1 = some e.2.2)) = true := by decide +kernel
theorem v82_9 : ((List.range 16).all fun k => g82 9 ((k : Nat) : Int) && decide (v82 9 ((k : Nat) : Int) = some (hr9.getD k 0))) = true := by decide +kernel
theorem v82_z : ((List.range 4).all fun q => pze (pl82 ++ pl82b) (46 + 2 * q) false && pze pl82b (46 + 2 * q) true && pze pl82 (46 + 2 * q) false) = true := by decide +kernel
theorem T1_82 : ∀ e ∈ T1, pgo pl82 e.1 e.2.1 (some 0) = some e.2.2 := by decide +kernel
end STA
