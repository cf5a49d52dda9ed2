/-! rules, the references that never change out of sight -/
theorem zsh_lt9 {c ci : Nat} (h : (zsh c).1 = ci) (h9 : ci < 25) : c < 1000 := zsh_bound (by omega)
def Tok (T : List (Nat × Int × Int)) : Prop := ∀ e ∈ T, 0 ≤ e.2.1 ∧ zrefs e.1 e.2.1.toNat = true
def Sh (T : List (Nat × Int × Int)) (s : Pl) : Prop := ∀ e ∈ T, s e.1 e.2.1 = e.2.2
theorem Sh.up {T : List (Nat × Int × Int)} {s : Pl} {c : Nat} {i v : Int} (hT : Tok T) (h : Sh T s) (hz : 0 ≤ i → zrefs c i.toNat = false) : Sh T (zup s c i v) := by
  intro e he
  obtain ⟨h1, h2⟩ := hT e he
  by_cases q : e.1 = c
  · by_cases q2 : e.2.1 = i
    · rw [q, q2] at h2
      rw [hz (by omega)] at h2
      cases h2
    · rw [q, zup_other q2, ← q]
      exact h e he
  · rw [zup_ne q]
    exact h e he
theorem zrefs_num {c i ci : Nat} (h : (zsh c).1 = ci) (h9 : ci < 9) (ht : (zf ci i).2.2.2 ≠ 1) : zrefs c i = false := by
  unfold zrefs
  rw [h]
  simp only [Bool.or_eq_false_iff, Bool.and_eq_false_iff, decide_eq_false_iff_not]
  exact ⟨Or.inr ht, by omega⟩
theorem zrefs_arr {c i ci : Nat} (h : (zsh c).1 = ci) (h1 : 20 ≤ ci) (h2 : ci < 23) : zrefs c i = false := by
  unfold zrefs
  rw [h]
  simp only [Bool.or_eq_false_iff, Bool.and_eq_false_iff, decide_eq_false_iff_not]
  exact ⟨Or.inl (by omega), by omega⟩
def qi (P : Int → Pl → Prop) : Option AV → Pl → Prop := fun r s => ∃ v, r = some (it v) ∧ P v s
def ql (P : Int → Pl → Prop) : Option AV → Pl → Prop := fun r s => ∃ v, r = some (lg v) ∧ P v s
def qr (P : Nat → Pl → Prop) : Option AV → Pl → Prop := fun r s => ∃ c, r = some (rf c) ∧ P c s
def qv (P : Pl → Prop) : Option AV → Pl → Prop := fun r s => r = none ∧ P s
def zP : Jvm.ClassFile.Cond → Int → Int → Prop
  | .eq, x, y => x = y
  | .ne, x, y => ¬ x = y
  | .lt, x, y => x < y
  | .ge, x, y => y ≤ x
  | .gt, x, y => y < x
  | .le, x, y => x ≤ y
theorem zP_iff (c : Jvm.ClassFile.Cond) (x y : Int) : zcp c x y = true ↔ zP c x y := by
  cases c <;> exact decide_eq_true_iff
variable (xs : Nat → Int) (L : Nat)
def Fr (T : List (Nat × Int × Int)) (n d y pc : Nat) (lv : LVs) (st : List AV) (s : Pl) (Q : Option AV → Pl → Prop) : Prop :=
  Tok T → Sh T s → Gr xs L d y pc lv st n s (fun r n2 s2 => n2 = n ∧ Sh T s2 ∧ Q r s2)
def Ev (T : List (Nat × Int × Int)) (n d y : Nat) (as : List AV) (s : Pl) (Q : Option AV → Pl → Prop) : Prop :=
  Tok T → Sh T s → Er xs L d y as n s (fun r n2 s2 => n2 = n ∧ Sh T s2 ∧ Q r s2)
variable {xs : Nat → Int} {L : Nat} {T : List (Nat × Int × Int)} {n d y pc : Nat} {lv : LVs} {st : List AV} {s : Pl} {Q : Option AV → Pl → Prop}
theorem Ev.mono {as : List AV} {Q2 : Option AV → Pl → Prop} (h : Ev xs L T n d y as s Q) (k : ∀ r s2, Q r s2 → Q2 r s2) : Ev xs L T n d y as s Q2 := fun h1 h2 => (h h1 h2).mono fun r n2 s2 h => ⟨h.1, h.2.1, k _ _ h.2.2⟩
theorem Ev.i {as : List AV} {P P2 : Int → Pl → Prop} (h : Ev xs L T n d y as s (qi P)) (k : ∀ v s2, P v s2 → P2 v s2) : Ev xs L T n d y as s (qi P2) := h.mono fun _ _ ⟨v, h1, h2⟩ => ⟨v, h1, k _ _ h2⟩
theorem Ev.l {as : List AV} {P P2 : Int → Pl → Prop} (h : Ev xs L T n d y as s (ql P)) (k : ∀ v s2, P v s2 → P2 v s2) : Ev xs L T n d y as s (ql P2) := h.mono fun _ _ ⟨v, h1, h2⟩ => ⟨v, h1, k _ _ h2⟩
theorem Ev.r {as : List AV} {P P2 : Nat → Pl → Prop} (h : Ev xs L T n d y as s (qr P)) (k : ∀ v s2, P v s2 → P2 v s2) : Ev xs L T n d y as s (qr P2) := h.mono fun _ _ ⟨v, h1, h2⟩ => ⟨v, h1, k _ _ h2⟩
theorem Ev.v {as : List AV} {P P2 : Pl → Prop} (h : Ev xs L T n d y as s (qv P)) (k : ∀ s2, P s2 → P2 s2) : Ev xs L T n d y as s (qv P2) := h.mono fun _ _ ⟨h1, h2⟩ => ⟨h1, k _ h2⟩
theorem Ev.up {as : List AV} {d2 : Nat} (h : Ev xs L T n d y as s Q) (hd : d ≤ d2) : Ev xs L T n d2 y as s Q := fun h1 h2 => (h h1 h2).up hd
theorem Ev.of {as : List AV} (hy : y < 247) (lv : LVs) (hlv : as.map some ++ List.replicate ((zm y).2.2.1 - as.length) none = lv) (hd : 1 ≤ d) (k : Fr xs L T n (d - 1) y 0 lv [] s Q) : Ev xs L T n d y as s Q := by
  intro h1 h2
  have h3 := Er.of hy lv hlv (k h1 h2)
  rw [show d - 1 + 1 = d from by omega] at h3
  exact h3
theorem Fr.step {lv2 : LVs} {st2 : List AV} {pc2 z : Nat} {i : Instr} (hi : zi y pc = some (i, z)) (hr : zret (yr y) i st = none) (hc : zcal (yo y) i = none) (hs : zstep xs L (yo y) (yi y) i z (pc, lv, st, n, s) = some (pc2, lv2, st2, n, s)) (k : Fr xs L T n d y pc2 lv2 st2 s Q) : Fr xs L T n d y pc lv st s Q := fun h1 h2 => Gr.step hi hr hc hs (k h1 h2)
/-- groups A, B, C by themselves -/
theorem Fr.sA {lv2 : LVs} {st2 : List AV} {pc2 z : Nat} {i : Instr} (hi : zi y pc = some (i, z)) (hr : zret (yr y) i st = none) (hc : zcal (yo y) i = none) (hs : zsA (yo y) (yi y) i z (pc, lv, st, n, s) = some (pc2, lv2, st2, n, s)) (k : Fr xs L T n d y pc2 lv2 st2 s Q) : Fr xs L T n d y pc lv st s Q :=
  Fr.step hi hr hc (by unfold zstep; rw [hs]) k
theorem Fr.sB {lv2 : LVs} {st2 : List AV} {pc2 z : Nat} {i : Instr} (hi : zi y pc = some (i, z)) (hr : zret (yr y) i st = none) (hc : zcal (yo y) i = none) (ha : zsA (yo y) (yi y) i z (pc, lv, st, n, s) = none) (hs : zsB (yo y) (yi y) i z (pc, lv, st, n, s) = some (pc2, lv2, st2, n, s)) (k : Fr xs L T n d y pc2 lv2 st2 s Q) : Fr xs L T n d y pc lv st s Q :=
  Fr.step hi hr hc (by unfold zstep; rw [ha]; dsimp only; rw [hs]) k
theorem Fr.sC {lv2 : LVs} {st2 : List AV} {pc2 z : Nat} {i : Instr} (hi : zi y pc = some (i, z)) (hr : zret (yr y) i st = none) (hc : zcal (yo y) i = none) (ha : zsA (yo y) (yi y) i z (pc, lv, st, n, s) = none) (hb : zsB (yo y) (yi y) i z (pc, lv, st, n, s) = none) (hs : zsC (yo y) (yi y) i z (pc, lv, st, n, s) = some (pc2, lv2, st2, n, s)) (k : Fr xs L T n d y pc2 lv2 st2 s Q) : Fr xs L T n d y pc lv st s Q :=
  Fr.step hi hr hc (by unfold zstep; rw [ha]; dsimp only; rw [hb]; dsimp only; rw [hs]) k
theorem Fr.goto {q : Nat} {df : Int} (hi : zi y pc = some (.goto df, 3)) (hq : zbr pc df = some q) (k : Fr xs L T n d y q lv st s Q) : Fr xs L T n d y pc lv st s Q :=
  Fr.sC hi rfl rfl rfl rfl (by simp only [zsC]; rw [hq]) k
theorem Fr.if0 {q : Nat} {df x : Int} {cq : Jvm.ClassFile.Cond} (hi : zi y pc = some (.ifCond cq df, 3)) (hq : zbr pc df = some q) (kt : zP cq x 0 → Fr xs L T n d y q lv st s Q) (kf : ¬ zP cq x 0 → Fr xs L T n d y (pc + 3) lv st s Q) : Fr xs L T n d y pc lv (it x :: st) s Q := by
  by_cases h : zP cq x 0
  · exact Fr.sC (pc2 := q) hi rfl rfl rfl rfl (by simp only [zsC, it]; rw [hq]; dsimp only; rw [if_pos ((zP_iff _ _ _).mpr h)]) (kt h)
  · exact Fr.sC (pc2 := pc + 3) hi rfl rfl rfl rfl (by simp only [zsC, it]; rw [hq]; dsimp only; rw [if_neg (fun w => h ((zP_iff _ _ _).mp w))]) (kf h)
theorem Fr.if2 {q : Nat} {df x x2 : Int} {cq : Jvm.ClassFile.Cond} (hi : zi y pc = some (.if_icmp cq df, 3)) (hq : zbr pc df = some q) (kt : zP cq x x2 → Fr xs L T n d y q lv st s Q) (kf : ¬ zP cq x x2 → Fr xs L T n d y (pc + 3) lv st s Q) : Fr xs L T n d y pc lv (it x2 :: it x :: st) s Q := by
  by_cases h : zP cq x x2
  · exact Fr.sC (pc2 := q) hi rfl rfl rfl rfl (by simp only [zsC, it]; rw [hq]; dsimp only; rw [if_pos ((zP_iff _ _ _).mpr h)]) (kt h)
  · exact Fr.sC (pc2 := pc + 3) hi rfl rfl rfl rfl (by simp only [zsC, it]; rw [hq]; dsimp only; rw [if_neg (fun w => h ((zP_iff _ _ _).mp w))]) (kf h)
theorem Fr.getI {c idx ci k t : Nat} (hi : zi y pc = some (.getfield idx, 3)) (hf : zfd (yo y) idx = some (ci, k, t)) (ht : t ≠ 1) (hc : (zsh c).1 = ci) (hk : k < zf_n ci) (h9 : ci < 9) (hn : c < n) (kk : Fr xs L T n d y (pc + 3) lv (it (s c k) :: st) s Q) : Fr xs L T n d y pc lv (rf (c + 1) :: st) s Q := by
  have h1 := zsh_lt9 hc (by omega)
  refine Fr.step (pc2 := pc + 3) (st2 := it (s c k) :: st) hi rfl rfl ?_ kk
  unfold zstep
  have ha : zsA (yo y) (yi y) (.getfield idx) 3 (pc, lv, rf (c + 1) :: st, n, s) = none := rfl
  have hb : zsB (yo y) (yi y) (.getfield idx) 3 (pc, lv, rf (c + 1) :: st, n, s) = none := rfl
  have hcq : zsC (yo y) (yi y) (.getfield idx) 3 (pc, lv, rf (c + 1) :: st, n, s) = none := rfl
  rw [ha, hb, hcq]
  simp only [zsD, rf]
  rw [if_neg (by omega), hf]
  simp only [Nat.add_sub_cancel]
  rw [if_pos ⟨by omega, by omega, hc, hk⟩, if_neg ht]
  rfl
theorem Fr.getR {c c2 idx ci k : Nat} (hi : zi y pc = some (.getfield idx, 3)) (hf : zfd (yo y) idx = some (ci, k, 1)) (hc : (zsh c).1 = ci) (hk : k < zf_n ci) (h9 : ci < 9) (hn : c < n) (hv : Sh T s → s c k = (c2 : Int)) (kk : Fr xs L T n d y (pc + 3) lv (rf c2 :: st) s Q) : Fr xs L T n d y pc lv (rf (c + 1) :: st) s Q := by
  intro hT hS
  have h1 := zsh_lt9 hc (by omega)
  refine Gr.step (pc2 := pc + 3) (st2 := rf c2 :: st) hi rfl rfl ?_ (kk hT hS)
  unfold zstep
  have ha : zsA (yo y) (yi y) (.getfield idx) 3 (pc, lv, rf (c + 1) :: st, n, s) = none := rfl
  have hb : zsB (yo y) (yi y) (.getfield idx) 3 (pc, lv, rf (c + 1) :: st, n, s) = none := rfl
  have hcq : zsC (yo y) (yi y) (.getfield idx) 3 (pc, lv, rf (c + 1) :: st, n, s) = none := rfl
  rw [ha, hb, hcq]
  simp only [zsD, rf]
  rw [if_neg (by omega), hf]
  simp only [Nat.add_sub_cancel]
  rw [if_pos ⟨by omega, by omega, hc, hk⟩, if_pos trivial, hv hS, Int.toNat_natCast]
theorem Fr.putI {c idx ci k t : Nat} {v : Int} (hi : zi y pc = some (.putfield idx, 3)) (hf : zfd (yo y) idx = some (ci, k, t)) (ht : t = 0 ∨ t = 2 ∧ (v = 0 ∨ v = 1)) (hc : (zsh c).1 = ci) (hk : k < zf_n ci) (h9 : ci < 9) (hn : c < n) (hfin : (zf ci k).2.2.1 = false) (htk : (zf ci k).2.2.2 ≠ 1) (kk : Fr xs L T n d y (pc + 3) lv st (zup s c k v) Q) : Fr xs L T n d y pc lv (it v :: rf (c + 1) :: st) s Q := by
  intro hT hS
  have h1 := zsh_lt9 hc (by omega)
  refine Gr.step (pc2 := pc + 3) (st2 := st) hi rfl rfl ?_ (kk hT (hS.up hT (fun _ => zrefs_num hc h9 (by rw [Int.toNat_natCast]; exact htk))))
  unfold zstep
  have ha : zsA (yo y) (yi y) (.putfield idx) 3 (pc, lv, it v :: rf (c + 1) :: st, n, s) = none := rfl
  have hb : zsB (yo y) (yi y) (.putfield idx) 3 (pc, lv, it v :: rf (c + 1) :: st, n, s) = none := rfl
  have hcq : zsC (yo y) (yi y) (.putfield idx) 3 (pc, lv, it v :: rf (c + 1) :: st, n, s) = none := rfl
  have hdq : zsD xs L (yo y) (yi y) (.putfield idx) 3 (pc, lv, it v :: rf (c + 1) :: st, n, s) = none := rfl
  rw [ha, hb, hcq, hdq]
  simp only [zsE, rf, it]
  rw [hf]
  simp only [Nat.add_sub_cancel]
  rw [if_pos ⟨by omega, by omega, hc, hk, ht, Or.inl hfin⟩]
theorem Fr.putR {c w idx ci k : Nat} (hi : zi y pc = some (.putfield idx, 3)) (hf : zfd (yo y) idx = some (ci, k, 1)) (hc : (zsh c).1 = ci) (hk : k < zf_n ci) (h9 : ci < 9) (hn : c < n) (hfin : (zf ci k).2.2.1 = false) (hw : 1 ≤ w ∧ w ≤ n) (hns : ∀ e ∈ T, ¬ (e.1 = c ∧ e.2.1 = (k : Int))) (kk : Fr xs L T n d y (pc + 3) lv st (zup s c k w) Q) : Fr xs L T n d y pc lv (rf w :: rf (c + 1) :: st) s Q := by
  intro hT hS
  have h1 := zsh_lt9 hc (by omega)
  refine Gr.step (pc2 := pc + 3) (st2 := st) hi rfl rfl ?_ (kk hT (fun e he => by
    by_cases q : e.1 = c
    · by_cases q2 : e.2.1 = (k : Int)
      · exact absurd ⟨q, q2⟩ (hns e he)
      · rw [q, zup_other q2, ← q]; exact hS e he
    · rw [zup_ne q]; exact hS e he))
  unfold zstep
  have ha : zsA (yo y) (yi y) (.putfield idx) 3 (pc, lv, rf w :: rf (c + 1) :: st, n, s) = none := rfl
  have hb : zsB (yo y) (yi y) (.putfield idx) 3 (pc, lv, rf w :: rf (c + 1) :: st, n, s) = none := rfl
  have hcq : zsC (yo y) (yi y) (.putfield idx) 3 (pc, lv, rf w :: rf (c + 1) :: st, n, s) = none := rfl
  have hdq : zsD xs L (yo y) (yi y) (.putfield idx) 3 (pc, lv, rf w :: rf (c + 1) :: st, n, s) = none := rfl
  rw [ha, hb, hcq, hdq]
  simp only [zsE, rf]
  rw [hf]
  simp only [Nat.add_sub_cancel]
  rw [if_pos ⟨by omega, by omega, hc, hk, trivial, hw.1, hw.2, Or.inl hfin⟩]
theorem Fr.iald {c : Nat} {i : Int} {N : Nat} (hi : zi y pc = some (.iaload, 1)) (hc : zsh c = (20, N)) (hn : c < n) (h0 : 0 ≤ i) (h1 : i < (N : Int)) (kk : Fr xs L T n d y (pc + 1) lv (it (s c i) :: st) s Q) : Fr xs L T n d y pc lv (it i :: rf (c + 1) :: st) s Q := by
  have h9 : c < 1000 := zsh_lt9 (ci := 20) (by rw [hc]) (by decide)
  refine Fr.step (pc2 := pc + 1) (st2 := it (s c i) :: st) hi rfl rfl ?_ kk
  unfold zstep
  have ha : zsA (yo y) (yi y) .iaload 1 (pc, lv, it i :: rf (c + 1) :: st, n, s) = none := rfl
  have hb : zsB (yo y) (yi y) .iaload 1 (pc, lv, it i :: rf (c + 1) :: st, n, s) = none := rfl
  have hcq : zsC (yo y) (yi y) .iaload 1 (pc, lv, it i :: rf (c + 1) :: st, n, s) = none := rfl
  rw [ha, hb, hcq]
  simp only [zsD, rf, it]
  rw [if_neg (by omega)]
  simp only [Nat.add_sub_cancel]
  rw [hc, if_pos ⟨by omega, by omega, rfl, h0, h1⟩]
theorem Fr.bald {c : Nat} {i : Int} {N K : Nat} (hi : zi y pc = some (.baload, 1)) (hc : zsh c = (K, N)) (hK : K = 21 ∨ K = 22) (hn : c < n) (h0 : 0 ≤ i) (h1 : i < (N : Int)) (kk : Fr xs L T n d y (pc + 1) lv (it (s c i) :: st) s Q) : Fr xs L T n d y pc lv (it i :: rf (c + 1) :: st) s Q := by
  have h9 : c < 1000 := zsh_lt9 (ci := K) (by rw [hc]) (by omega)
  refine Fr.step (pc2 := pc + 1) (st2 := it (s c i) :: st) hi rfl rfl ?_ kk
  unfold zstep
  have ha : zsA (yo y) (yi y) .baload 1 (pc, lv, it i :: rf (c + 1) :: st, n, s) = none := rfl
  have hb : zsB (yo y) (yi y) .baload 1 (pc, lv, it i :: rf (c + 1) :: st, n, s) = none := rfl
  have hcq : zsC (yo y) (yi y) .baload 1 (pc, lv, it i :: rf (c + 1) :: st, n, s) = none := rfl
  rw [ha, hb, hcq]
  simp only [zsD, rf, it]
  rw [if_neg (by omega)]
  simp only [Nat.add_sub_cancel]
  rw [hc, if_pos ⟨by omega, by omega, hK, h0, h1⟩]
theorem Fr.aald {c c2 : Nat} {i : Int} {N K : Nat} (hi : zi y pc = some (.aaload, 1)) (hc : zsh c = (K, N)) (hK : K = 23 ∨ K = 24) (hn : c < n) (h0 : 0 ≤ i) (h1 : i < (N : Int)) (hv : Sh T s → s c i = (c2 : Int)) (kk : Fr xs L T n d y (pc + 1) lv (rf c2 :: st) s Q) : Fr xs L T n d y pc lv (it i :: rf (c + 1) :: st) s Q := by
  intro hT hS
  have h9 : c < 1000 := zsh_lt9 (ci := K) (by rw [hc]) (by omega)
  refine Gr.step (pc2 := pc + 1) (st2 := rf c2 :: st) hi rfl rfl ?_ (kk hT hS)
  unfold zstep
  have ha : zsA (yo y) (yi y) .aaload 1 (pc, lv, it i :: rf (c + 1) :: st, n, s) = none := rfl
  have hb : zsB (yo y) (yi y) .aaload 1 (pc, lv, it i :: rf (c + 1) :: st, n, s) = none := rfl
  have hcq : zsC (yo y) (yi y) .aaload 1 (pc, lv, it i :: rf (c + 1) :: st, n, s) = none := rfl
  rw [ha, hb, hcq]
  simp only [zsD, rf, it]
  simp only [Nat.add_sub_cancel]
  rw [hc, if_pos ⟨by omega, by omega, hK, h0, h1⟩, hv hS, Int.toNat_natCast]
theorem Fr.alen {c N K : Nat} (hi : zi y pc = some (.arraylength, 1)) (hc : zsh c = (K, N)) (hK : 20 ≤ K ∧ K ≤ 24) (hn : c < n) (kk : Fr xs L T n d y (pc + 1) lv (it (N : Int) :: st) s Q) : Fr xs L T n d y pc lv (rf (c + 1) :: st) s Q := by
  have h9 : c < 1000 := zsh_lt9 (ci := K) (by rw [hc]) (by omega)
  refine Fr.step (pc2 := pc + 1) (st2 := it (N : Int) :: st) hi rfl rfl ?_ kk
  unfold zstep
  have ha : zsA (yo y) (yi y) .arraylength 1 (pc, lv, rf (c + 1) :: st, n, s) = none := rfl
  have hb : zsB (yo y) (yi y) .arraylength 1 (pc, lv, rf (c + 1) :: st, n, s) = none := rfl
  have hcq : zsC (yo y) (yi y) .arraylength 1 (pc, lv, rf (c + 1) :: st, n, s) = none := rfl
  rw [ha, hb, hcq]
  simp only [zsD, rf, it]
  rw [if_neg (by omega)]
  simp only [Nat.add_sub_cancel]
  rw [hc, if_pos ⟨by omega, by omega, hK.1, hK.2⟩]
theorem Fr.iast {c : Nat} {i v : Int} {N : Nat} (hi : zi y pc = some (.iastore, 1)) (hc : zsh c = (20, N)) (hn : c < n) (h0 : 0 ≤ i) (h1 : i < (N : Int)) (kk : Fr xs L T n d y (pc + 1) lv st (zup s c i v) Q) : Fr xs L T n d y pc lv (it v :: it i :: rf (c + 1) :: st) s Q := by
  intro hT hS
  have h9 : c < 1000 := zsh_lt9 (ci := 20) (by rw [hc]) (by decide)
  refine Gr.step (pc2 := pc + 1) (st2 := st) hi rfl rfl ?_ (kk hT (hS.up hT (fun _ => zrefs_arr (ci := 20) (by rw [hc]) (by decide) (by decide))))
  unfold zstep
  have ha : zsA (yo y) (yi y) .iastore 1 (pc, lv, it v :: it i :: rf (c + 1) :: st, n, s) = none := rfl
  have hb : zsB (yo y) (yi y) .iastore 1 (pc, lv, it v :: it i :: rf (c + 1) :: st, n, s) = none := rfl
  have hcq : zsC (yo y) (yi y) .iastore 1 (pc, lv, it v :: it i :: rf (c + 1) :: st, n, s) = none := rfl
  have hdq : zsD xs L (yo y) (yi y) .iastore 1 (pc, lv, it v :: it i :: rf (c + 1) :: st, n, s) = none := rfl
  rw [ha, hb, hcq, hdq]
  simp only [zsE, rf, it]
  simp only [Nat.add_sub_cancel]
  rw [hc, if_pos ⟨by omega, by omega, rfl, h0, h1⟩]
theorem Fr.bast {c : Nat} {i v : Int} {N : Nat} (hi : zi y pc = some (.bastore, 1)) (hc : zsh c = (21, N)) (hn : c < n) (h0 : 0 ≤ i) (h1 : i < (N : Int)) (kk : Fr xs L T n d y (pc + 1) lv st (zup s c i (zb8 v)) Q) : Fr xs L T n d y pc lv (it v :: it i :: rf (c + 1) :: st) s Q := by
  intro hT hS
  have h9 : c < 1000 := zsh_lt9 (ci := 21) (by rw [hc]) (by decide)
  refine Gr.step (pc2 := pc + 1) (st2 := st) hi rfl rfl ?_ (kk hT (hS.up hT (fun _ => zrefs_arr (ci := 21) (by rw [hc]) (by decide) (by decide))))
  unfold zstep
  have ha : zsA (yo y) (yi y) .bastore 1 (pc, lv, it v :: it i :: rf (c + 1) :: st, n, s) = none := rfl
  have hb : zsB (yo y) (yi y) .bastore 1 (pc, lv, it v :: it i :: rf (c + 1) :: st, n, s) = none := rfl
  have hcq : zsC (yo y) (yi y) .bastore 1 (pc, lv, it v :: it i :: rf (c + 1) :: st, n, s) = none := rfl
  have hdq : zsD xs L (yo y) (yi y) .bastore 1 (pc, lv, it v :: it i :: rf (c + 1) :: st, n, s) = none := rfl
  rw [ha, hb, hcq, hdq]
  simp only [zsE, rf, it]
  simp only [Nat.add_sub_cancel]
  rw [hc, if_pos ⟨by omega, by omega, Or.inl rfl, h0, h1⟩, if_pos rfl]
theorem Fr.zast {c : Nat} {i v : Int} {N : Nat} (hi : zi y pc = some (.bastore, 1)) (hc : zsh c = (22, N)) (hn : c < n) (h0 : 0 ≤ i) (h1 : i < (N : Int)) (hv : v = 0 ∨ v = 1) (kk : Fr xs L T n d y (pc + 1) lv st (zup s c i v) Q) : Fr xs L T n d y pc lv (it v :: it i :: rf (c + 1) :: st) s Q := by
  intro hT hS
  have h9 : c < 1000 := zsh_lt9 (ci := 22) (by rw [hc]) (by decide)
  refine Gr.step (pc2 := pc + 1) (st2 := st) hi rfl rfl ?_ (kk hT (hS.up hT (fun _ => zrefs_arr (ci := 22) (by rw [hc]) (by decide) (by decide))))
  unfold zstep
  have ha : zsA (yo y) (yi y) .bastore 1 (pc, lv, it v :: it i :: rf (c + 1) :: st, n, s) = none := rfl
  have hb : zsB (yo y) (yi y) .bastore 1 (pc, lv, it v :: it i :: rf (c + 1) :: st, n, s) = none := rfl
  have hcq : zsC (yo y) (yi y) .bastore 1 (pc, lv, it v :: it i :: rf (c + 1) :: st, n, s) = none := rfl
  have hdq : zsD xs L (yo y) (yi y) .bastore 1 (pc, lv, it v :: it i :: rf (c + 1) :: st, n, s) = none := rfl
  rw [ha, hb, hcq, hdq]
  simp only [zsE, rf, it]
  simp only [Nat.add_sub_cancel]
  rw [hc, if_pos ⟨by omega, by omega, Or.inr ⟨rfl, hv⟩, h0, h1⟩, if_neg (fun w => absurd w (by decide : ¬ (22 : Nat) = 21))]
theorem Fr.giv {j : Nat} {i : Int} (hi : zi y pc = some (.iaload, 1)) (hj : j = 0 ∨ j = 1 ∨ j = 6) (h0 : 0 ≤ i) (h1 : i < ((zgiv xs L j).1 : Int)) (kk : Fr xs L T n d y (pc + 1) lv (it ((zgiv xs L j).2 i) :: st) s Q) : Fr xs L T n d y pc lv (it i :: rf (100000 + j) :: st) s Q := by
  refine Fr.step (pc2 := pc + 1) (st2 := it ((zgiv xs L j).2 i) :: st) hi rfl rfl ?_ kk
  unfold zstep
  have ha : zsA (yo y) (yi y) .iaload 1 (pc, lv, it i :: rf (100000 + j) :: st, n, s) = none := rfl
  have hb : zsB (yo y) (yi y) .iaload 1 (pc, lv, it i :: rf (100000 + j) :: st, n, s) = none := rfl
  have hcq : zsC (yo y) (yi y) .iaload 1 (pc, lv, it i :: rf (100000 + j) :: st, n, s) = none := rfl
  rw [ha, hb, hcq]
  simp only [zsD, rf, it]
  rw [if_pos (by omega), if_pos (by omega), show 100000 + j - 100000 = j from by omega, if_pos ⟨h0, h1⟩]
theorem Fr.glen {j : Nat} (hi : zi y pc = some (.arraylength, 1)) (hj : j = 0 ∨ j = 1 ∨ j = 4 ∨ j = 5 ∨ j = 6) (kk : Fr xs L T n d y (pc + 1) lv (it ((zgiv xs L j).1 : Int) :: st) s Q) : Fr xs L T n d y pc lv (rf (100000 + j) :: st) s Q := by
  refine Fr.step (pc2 := pc + 1) (st2 := it ((zgiv xs L j).1 : Int) :: st) hi rfl rfl ?_ kk
  unfold zstep
  have ha : zsA (yo y) (yi y) .arraylength 1 (pc, lv, rf (100000 + j) :: st, n, s) = none := rfl
  have hb : zsB (yo y) (yi y) .arraylength 1 (pc, lv, rf (100000 + j) :: st, n, s) = none := rfl
  have hcq : zsC (yo y) (yi y) .arraylength 1 (pc, lv, rf (100000 + j) :: st, n, s) = none := rfl
  rw [ha, hb, hcq]
  simp only [zsD, rf, it]
  rw [if_pos (by omega), if_pos (by omega), show 100000 + j - 100000 = j from by omega]
theorem Fr.copy {c1 c2 N1 N2 idx : Nat} {i j k : Int} (hi : zi y pc = some (.invokestatic idx, 3)) (hm : zml (yo y) idx = none) (hnl : znl (yo y) idx = none) (hac : zac (yo y) idx = true) (hc1 : zsh c1 = (20, N1)) (hc2 : zsh c2 = (20, N2)) (hn1 : c1 < n) (hn2 : c2 < n) (h0 : 0 ≤ i) (h1 : 0 ≤ j) (h2 : 0 ≤ k) (h3 : i + k ≤ (N1 : Int)) (h4 : j + k ≤ (N2 : Int)) (hst : (st.map zcat).sum ≤ 8) (kk : Fr xs L T n d y (pc + 3) lv st (zcopy s c1 i c2 j k) Q) : Fr xs L T n d y pc lv (it k :: it j :: rf (c2 + 1) :: it i :: rf (c1 + 1) :: st) s Q := by
  intro hT hS
  refine Gr.step (pc2 := pc + 3) (st2 := st) hi rfl (by simp only [zcal]; rw [hm]; exact hnl) ?_ (kk hT (fun e he => by
    by_cases q : e.1 = c2
    · have h9 := (hT e he).2
      rw [q, zrefs_arr (ci := 20) (by rw [hc2]) (by decide) (by decide)] at h9
      cases h9
    · unfold zcopy; rw [if_neg q]; exact hS e he))
  unfold zstep
  have ha : zsA (yo y) (yi y) (.invokestatic idx) 3 (pc, lv, it k :: it j :: rf (c2 + 1) :: it i :: rf (c1 + 1) :: st, n, s) = none := rfl
  have hb : zsB (yo y) (yi y) (.invokestatic idx) 3 (pc, lv, it k :: it j :: rf (c2 + 1) :: it i :: rf (c1 + 1) :: st, n, s) = none := rfl
  have hcq : zsC (yo y) (yi y) (.invokestatic idx) 3 (pc, lv, it k :: it j :: rf (c2 + 1) :: it i :: rf (c1 + 1) :: st, n, s) = none := rfl
  have hdq : zsD xs L (yo y) (yi y) (.invokestatic idx) 3 (pc, lv, it k :: it j :: rf (c2 + 1) :: it i :: rf (c1 + 1) :: st, n, s) = none := rfl
  rw [ha, hb, hcq, hdq]
  simp only [zsE, rf, it]
  simp only [Nat.add_sub_cancel]
  rw [hc1, hc2, if_pos ⟨hac, by omega, by omega, by omega, by omega, rfl, rfl, h0, h1, h2, h3, h4, hst⟩]
/-- calls, by what comes back -/
theorem Fr.callQ {y2 na z : Nat} {as rest : List AV} {Q2 : Option AV → Pl → Prop} {i : Instr} (hi : zi y pc = some (i, z)) (hr : zret (yr y) i st = none) (hc : zcal (yo y) i = some y2) (hna : (zm y2).2.2.2.2.2.2.1 = na) (hst : st = as.reverse ++ rest) (hl : as.length = na) (hok : zcallok i y2 n as rest = true) (hcall : Ev xs L T n d y2 as s Q2)
    (k : ∀ r s2, Q2 r s2 → Fr xs L T n d y (pc + z) lv (r.toList ++ rest) s2 Q) : Fr xs L T n d y pc lv st s Q := fun h1 h2 => Gr.call hi hr hc hna hst hl hok (hcall h1 h2) (fun r n2 s2 ⟨e1, e2, e3⟩ => by subst e1; exact k r s2 e3 h1 e2)
theorem Fr.callI {y2 na z : Nat} {as rest : List AV} {P : Int → Pl → Prop} {i : Instr} (hi : zi y pc = some (i, z)) (hr : zret (yr y) i st = none) (hc : zcal (yo y) i = some y2) (hna : (zm y2).2.2.2.2.2.2.1 = na) (hst : st = as.reverse ++ rest) (hl : as.length = na) (hok : zcallok i y2 n as rest = true) (hcall : Ev xs L T n d y2 as s (qi P))
    (k : ∀ v s2, P v s2 → Fr xs L T n d y (pc + z) lv (it v :: rest) s2 Q) : Fr xs L T n d y pc lv st s Q := Fr.callQ hi hr hc hna hst hl hok hcall (fun _ _ ⟨_, e1, e2⟩ => by subst e1; exact k _ _ e2)
theorem Fr.callL {y2 na z : Nat} {as rest : List AV} {P : Int → Pl → Prop} {i : Instr} (hi : zi y pc = some (i, z)) (hr : zret (yr y) i st = none) (hc : zcal (yo y) i = some y2) (hna : (zm y2).2.2.2.2.2.2.1 = na) (hst : st = as.reverse ++ rest) (hl : as.length = na) (hok : zcallok i y2 n as rest = true) (hcall : Ev xs L T n d y2 as s (ql P))
    (k : ∀ v s2, P v s2 → Fr xs L T n d y (pc + z) lv (lg v :: rest) s2 Q) : Fr xs L T n d y pc lv st s Q := Fr.callQ hi hr hc hna hst hl hok hcall (fun _ _ ⟨_, e1, e2⟩ => by subst e1; exact k _ _ e2)
theorem Fr.callR {y2 na z : Nat} {as rest : List AV} {P : Nat → Pl → Prop} {i : Instr} (hi : zi y pc = some (i, z)) (hr : zret (yr y) i st = none) (hc : zcal (yo y) i = some y2) (hna : (zm y2).2.2.2.2.2.2.1 = na) (hst : st = as.reverse ++ rest) (hl : as.length = na) (hok : zcallok i y2 n as rest = true) (hcall : Ev xs L T n d y2 as s (qr P))
    (k : ∀ v s2, P v s2 → Fr xs L T n d y (pc + z) lv (rf v :: rest) s2 Q) : Fr xs L T n d y pc lv st s Q := Fr.callQ hi hr hc hna hst hl hok hcall (fun _ _ ⟨_, e1, e2⟩ => by subst e1; exact k _ _ e2)
theorem Fr.callV {y2 na z : Nat} {as rest : List AV} {P : Pl → Prop} {i : Instr} (hi : zi y pc = some (i, z)) (hr : zret (yr y) i st = none) (hc : zcal (yo y) i = some y2) (hna : (zm y2).2.2.2.2.2.2.1 = na) (hst : st = as.reverse ++ rest) (hl : as.length = na) (hok : zcallok i y2 n as rest = true) (hcall : Ev xs L T n d y2 as s (qv P))
    (k : ∀ s2, P s2 → Fr xs L T n d y (pc + z) lv rest s2 Q) : Fr xs L T n d y pc lv st s Q := Fr.callQ hi hr hc hna hst hl hok hcall (fun _ _ ⟨e1, e2⟩ => by subst e1; exact k _ e2)
/-- returns -/
theorem Fr.retI {v : Int} {P : Int → Pl → Prop} (hi : zi y pc = some (.ireturn, 1)) (hy : yr y = 1) (k : P v s) : Fr xs L T n d y pc lv [it v] s (qi P) := fun _ h2 => Gr.ret (r := some (it v)) hi (by rw [hy]; rfl) ⟨rfl, h2, v, rfl, k⟩
theorem Fr.retZ {v : Int} {P : Int → Pl → Prop} (hi : zi y pc = some (.ireturn, 1)) (hy : yr y = 2) (hv : v = 0 ∨ v = 1) (k : P v s) : Fr xs L T n d y pc lv [it v] s (qi P) := fun _ h2 => Gr.ret (r := some (it v)) hi (by rw [hy]; show (if _ then _ else _) = _; rw [if_pos (Or.inr (Or.inl ⟨rfl, hv⟩))]; rfl) ⟨rfl, h2, v, rfl, k⟩
theorem Fr.retC {v : Int} {P : Int → Pl → Prop} (hi : zi y pc = some (.ireturn, 1)) (hy : yr y = 3) (hv : 0 ≤ v ∧ v < 65536) (k : P v s) : Fr xs L T n d y pc lv [it v] s (qi P) := fun _ h2 => Gr.ret (r := some (it v)) hi (by rw [hy]; show (if _ then _ else _) = _; rw [if_pos (Or.inr (Or.inr (Or.inl ⟨rfl, hv.1, hv.2⟩)))]; rfl) ⟨rfl, h2, v, rfl, k⟩
theorem Fr.retB {v : Int} {P : Int → Pl → Prop} (hi : zi y pc = some (.ireturn, 1)) (hy : yr y = 4) (hv : -128 ≤ v ∧ v < 128) (k : P v s) : Fr xs L T n d y pc lv [it v] s (qi P) := fun _ h2 => Gr.ret (r := some (it v)) hi (by rw [hy]; show (if _ then _ else _) = _; rw [if_pos (Or.inr (Or.inr (Or.inr ⟨rfl, hv.1, hv.2⟩)))]; rfl) ⟨rfl, h2, v, rfl, k⟩
theorem Fr.retL {v : Int} {P : Int → Pl → Prop} (hi : zi y pc = some (.lreturn, 1)) (hy : yr y = 5) (k : P v s) : Fr xs L T n d y pc lv [lg v] s (ql P) := fun _ h2 => Gr.ret (r := some (lg v)) hi (by rw [hy]; rfl) ⟨rfl, h2, v, rfl, k⟩
theorem Fr.retR {c : Nat} {P : Nat → Pl → Prop} (hi : zi y pc = some (.areturn, 1)) (hy : yr y = 6) (hc : c < 100000) (k : P c s) : Fr xs L T n d y pc lv [rf c] s (qr P) := fun _ h2 => Gr.ret (r := some (rf c)) hi (by rw [hy]; show (if _ then _ else _) = _; rw [if_pos ⟨rfl, hc⟩]; rfl) ⟨rfl, h2, c, rfl, k⟩
theorem Fr.retV {P : Pl → Prop} (hi : zi y pc = some (.return_, 1)) (hy : yr y = 0) (k : P s) : Fr xs L T n d y pc lv [] s (qv P) := fun _ h2 => Gr.ret (r := none) hi (by rw [hy]; rfl) ⟨rfl, h2, rfl, k⟩
