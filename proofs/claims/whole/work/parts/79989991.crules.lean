/-! rules where cells come: the constructors -/
def pap (s : Pl) : List (Nat × Option (Int × Int)) → Pl
  | [] => s
  | (c, none) :: r => pap (znew s c) r
  | (c, some (i, v)) :: r => pap (zup s c i v) r
theorem pap_fr {c : Nat} : ∀ (l : List (Nat × Option (Int × Int))) (s : Pl), (l.all fun e => decide (e.1 ≠ c)) = true → pap s l c = s c
  | [], s, _ => rfl
  | (a, none) :: r, s, h => by
    simp only [List.all_cons, Bool.and_eq_true, decide_eq_true_eq] at h
    show pap (znew s a) r c = s c
    rw [pap_fr r _ h.2]
    unfold znew
    rw [if_neg (fun e => h.1 e.symm)]
  | (a, some (i, v)) :: r, s, h => by
    simp only [List.all_cons, Bool.and_eq_true, decide_eq_true_eq] at h
    show pap (zup s a i v) r c = s c
    rw [pap_fr r _ h.2, zune _ _ _ (fun e => h.1 e.symm)]
section CRU
variable {xs : Nat → Int} {L d y pc n n2 : Nat} {lv : LVs} {st : List AV} {s : Pl} {Q : Option AV → Nat → Pl → Prop}
theorem Cr.sA {lv2 : LVs} {st2 : List AV} {pc2 z : Nat} {i : Instr} (hi : zi y pc = some (i, z)) (hr : zret (yr y) i st = none) (hc : zcal (yo y) i = none) (hs : zsA (yo y) (yi y) i z (pc, lv, st, n, s) = some (pc2, lv2, st2, n, s)) (k : Gr xs L d y pc2 lv2 st2 n s Q) : Gr xs L d y pc lv st n s Q :=
  Gr.step hi hr hc (by unfold zstep; rw [hs]) k
theorem Cr.sB {lv2 : LVs} {st2 : List AV} {pc2 z : Nat} {i : Instr} (hi : zi y pc = some (i, z)) (hr : zret (yr y) i st = none) (hc : zcal (yo y) i = none) (ha : zsA (yo y) (yi y) i z (pc, lv, st, n, s) = none) (hs : zsB (yo y) (yi y) i z (pc, lv, st, n, s) = some (pc2, lv2, st2, n, s)) (k : Gr xs L d y pc2 lv2 st2 n s Q) : Gr xs L d y pc lv st n s Q :=
  Gr.step hi hr hc (by unfold zstep; rw [ha]; dsimp only; rw [hs]) k
theorem Cr.sC {lv2 : LVs} {st2 : List AV} {pc2 z : Nat} {i : Instr} (hi : zi y pc = some (i, z)) (hr : zret (yr y) i st = none) (hc : zcal (yo y) i = none) (ha : zsA (yo y) (yi y) i z (pc, lv, st, n, s) = none) (hb : zsB (yo y) (yi y) i z (pc, lv, st, n, s) = none) (hs : zsC (yo y) (yi y) i z (pc, lv, st, n, s) = some (pc2, lv2, st2, n, s)) (k : Gr xs L d y pc2 lv2 st2 n s Q) : Gr xs L d y pc lv st n s Q :=
  Gr.step hi hr hc (by unfold zstep; rw [ha]; dsimp only; rw [hb]; dsimp only; rw [hs]) k
theorem Cr.iconst {v : Int} (hi : zi y pc = some (.iconst v, 1)) (h : -1 ≤ v ∧ v ≤ 5) (k : Gr xs L d y (pc + 1) lv (it v :: st) n s Q) : Gr xs L d y pc lv st n s Q := Cr.sA hi rfl rfl (by simp only [zsA, it]; rw [if_pos h]) k
theorem Cr.bipush {v : Int} (hi : zi y pc = some (.bipush v, 2)) (h : -128 ≤ v ∧ v < 128) (k : Gr xs L d y (pc + 2) lv (it v :: st) n s Q) : Gr xs L d y pc lv st n s Q := Cr.sA hi rfl rfl (by simp only [zsA, it]; rw [if_pos h]) k
theorem Cr.sipush {v : Int} (hi : zi y pc = some (.sipush v, 3)) (h : -32768 ≤ v ∧ v < 32768) (k : Gr xs L d y (pc + 3) lv (it v :: st) n s Q) : Gr xs L d y pc lv st n s Q := Cr.sA hi rfl rfl (by simp only [zsA, it]; rw [if_pos h]) k
theorem Cr.ildn {k : Fin 4} {v : Int} (hi : zi y pc = some (.iload_n k, 1)) (h : zld lv k = some (it v)) (k : Gr xs L d y (pc + 1) lv (it v :: st) n s Q) : Gr xs L d y pc lv st n s Q := Cr.sA hi rfl rfl (by simp only [zsA]; rw [h]; rfl) k
theorem Cr.aldn {k : Fin 4} {c : Nat} (hi : zi y pc = some (.aload_n k, 1)) (h : zld lv k = some (rf c)) (hc : 1 ≤ c ∧ c ≤ 100006) (k : Gr xs L d y (pc + 1) lv (rf c :: st) n s Q) : Gr xs L d y pc lv st n s Q := Cr.sA hi rfl rfl (by simp only [zsA]; rw [h]; simp only [rf]; rw [if_pos hc]) k
theorem Cr.istn {k : Fin 4} {v : Int} {lv2 : LVs} (hi : zi y pc = some (.istore_n k, 1)) (hk : (k : Nat) < lv.length) (h : zst1 lv k (it v) = lv2) (k : Gr xs L d y (pc + 1) lv2 st n s Q) : Gr xs L d y pc lv (it v :: st) n s Q := Cr.sA hi rfl rfl (by subst h; simp only [zsA, it]; rw [if_pos hk]) k
theorem Cr.astn {k : Fin 4} {c : Nat} {lv2 : LVs} (hi : zi y pc = some (.astore_n k, 1)) (hk : (k : Nat) < lv.length) (hc : 1 ≤ c ∧ c ≤ 100006) (h : zst1 lv k (rf c) = lv2) (k : Gr xs L d y (pc + 1) lv2 st n s Q) : Gr xs L d y pc lv (rf c :: st) n s Q := Cr.sA hi rfl rfl (by subst h; simp only [zsA, rf]; rw [if_pos ⟨hk, hc⟩]) k
theorem Cr.iinc {k : Nat} {v c : Int} {lv2 : LVs} (hi : zi y pc = some (.iinc k c, 3)) (hk : k < lv.length) (hv : zld lv k = some (it v)) (h : zst1 lv k (it (zw (v + c))) = lv2) (k : Gr xs L d y (pc + 3) lv2 st n s Q) : Gr xs L d y pc lv st n s Q := Cr.sA hi rfl rfl (by subst h; simp only [zsA]; rw [if_pos hk, hv]; rfl) k
theorem Cr.dup {v : AV} (hi : zi y pc = some (.dup, 1)) (h : zcat v = 1) (k : Gr xs L d y (pc + 1) lv (v :: v :: st) n s Q) : Gr xs L d y pc lv (v :: st) n s Q := Cr.sA hi rfl rfl (by simp only [zsA]; rw [if_pos h]) k
theorem Cr.pop {v : AV} (hi : zi y pc = some (.pop, 1)) (h : zcat v = 1) (k : Gr xs L d y (pc + 1) lv st n s Q) : Gr xs L d y pc lv (v :: st) n s Q := Cr.sA hi rfl rfl (by simp only [zsA]; rw [if_pos h]) k
theorem Cr.iadd {a b c : Int} (hi : zi y pc = some (.iadd, 1)) (h : zw (a + b) = c) (k : Gr xs L d y (pc + 1) lv (it c :: st) n s Q) : Gr xs L d y pc lv (it b :: it a :: st) n s Q := Cr.sB hi rfl rfl rfl (by subst h; rfl) k
theorem Cr.isub {a b c : Int} (hi : zi y pc = some (.isub, 1)) (h : zw (a - b) = c) (k : Gr xs L d y (pc + 1) lv (it c :: st) n s Q) : Gr xs L d y pc lv (it b :: it a :: st) n s Q := Cr.sB hi rfl rfl rfl (by subst h; rfl) k
theorem Cr.imul {a b c : Int} (hi : zi y pc = some (.imul, 1)) (h : zw (a * b) = c) (k : Gr xs L d y (pc + 1) lv (it c :: st) n s Q) : Gr xs L d y pc lv (it b :: it a :: st) n s Q := Cr.sB hi rfl rfl rfl (by subst h; rfl) k
theorem Cr.ldc {idx : Nat} {v : AV} (hi : zi y pc = some (.ldc idx, 2)) (h : zldc (yo y) idx = some v) (k : Gr xs L d y (pc + 2) lv (v :: st) n s Q) : Gr xs L d y pc lv st n s Q := Cr.sC hi rfl rfl rfl rfl (by simp only [zsC]; rw [h]) k
theorem Cr.goto {q : Nat} {df : Int} (hi : zi y pc = some (.goto df, 3)) (hq : zbr pc df = some q) (k : Gr xs L d y q lv st n s Q) : Gr xs L d y pc lv st n s Q :=
  Cr.sC hi rfl rfl rfl rfl (by simp only [zsC]; rw [hq]) k
theorem Cr.if2t {q : Nat} {df x x2 : Int} {cq : Jvm.ClassFile.Cond} (hi : zi y pc = some (.if_icmp cq df, 3)) (hq : zbr pc df = some q) (h : zP cq x x2) (kt : Gr xs L d y q lv st n s Q) : Gr xs L d y pc lv (it x2 :: it x :: st) n s Q :=
  Cr.sC (pc2 := q) hi rfl rfl rfl rfl (by simp only [zsC, it]; rw [hq]; dsimp only; rw [if_pos ((zP_iff _ _ _).mpr h)]) kt
theorem Cr.if2f {q : Nat} {df x x2 : Int} {cq : Jvm.ClassFile.Cond} (hi : zi y pc = some (.if_icmp cq df, 3)) (hq : zbr pc df = some q) (h : ¬ zP cq x x2) (kf : Gr xs L d y (pc + 3) lv st n s Q) : Gr xs L d y pc lv (it x2 :: it x :: st) n s Q :=
  Cr.sC (pc2 := pc + 3) hi rfl rfl rfl rfl (by simp only [zsC, it]; rw [hq]; dsimp only; rw [if_neg (fun w => h ((zP_iff _ _ _).mp w))]) kf
theorem Cr.retV (hi : zi y pc = some (.return_, 1)) (hy : yr y = 0) (k : Q none n s) : Gr xs L d y pc lv [] n s Q := Gr.ret (r := none) hi (by rw [hy]; rfl) k
theorem Cr.newarr {a : ArrayType} {k : Nat} {v : Int} (hi : zi y pc = some (.newarray a, 2)) (h : zsh n = (zatk a, k)) (ha : zatk a < 98) (hv : ((k : Nat) : Int) = v) (h2 : n + 1 = n2) (kk : Gr xs L d y (pc + 2) lv (rf n2 :: st) n2 (znew s n) Q) : Gr xs L d y pc lv (it v :: st) n s Q := by
  subst h2
  refine Gr.step (pc2 := pc + 2) (st2 := rf (n + 1) :: st) (n2 := n + 1) (s2 := znew s n) hi rfl rfl ?_ kk
  unfold zstep
  have h1 : zsA (yo y) (yi y) (.newarray a) 2 (pc, lv, it v :: st, n, s) = none := rfl
  have h3 : zsB (yo y) (yi y) (.newarray a) 2 (pc, lv, it v :: st, n, s) = none := rfl
  have h4 : zsC (yo y) (yi y) (.newarray a) 2 (pc, lv, it v :: st, n, s) = none := rfl
  have h5 : zsD xs L (yo y) (yi y) (.newarray a) 2 (pc, lv, it v :: st, n, s) = none := rfl
  rw [h1, h3, h4, h5]
  simp only [zsE, it]
  rw [h, if_pos ⟨rfl, ha, hv.symm⟩]
  rfl
theorem Cr.newo {idx ci : Nat} (hi : zi y pc = some (.new idx, 3)) (hc : zcla (yo y) idx = some ci) (h : zsh n = (ci, zf_n ci)) (h9 : ci < 9) (h2 : n + 1 = n2) (kk : Gr xs L d y (pc + 3) lv (rf n2 :: st) n2 (znew s n) Q) : Gr xs L d y pc lv st n s Q := by
  subst h2
  refine Gr.step (pc2 := pc + 3) (st2 := rf (n + 1) :: st) (n2 := n + 1) (s2 := znew s n) hi rfl rfl ?_ kk
  unfold zstep
  have h1 : zsA (yo y) (yi y) (.new idx) 3 (pc, lv, st, n, s) = none := rfl
  have h3 : zsB (yo y) (yi y) (.new idx) 3 (pc, lv, st, n, s) = none := rfl
  have h4 : zsC (yo y) (yi y) (.new idx) 3 (pc, lv, st, n, s) = none := rfl
  have h5 : zsD xs L (yo y) (yi y) (.new idx) 3 (pc, lv, st, n, s) = none := rfl
  rw [h1, h3, h4, h5]
  simp only [zsE]
  rw [hc]
  dsimp only
  rw [h, if_pos ⟨rfl, rfl, h9⟩]
  rfl
theorem Cr.anew {idx ci kd k : Nat} {v : Int} (hi : zi y pc = some (.anewarray idx, 3)) (hc : zcla (yo y) idx = some ci) (h : zsh n = (kd, k)) (hk : (ci = 1 ∧ kd = 23) ∨ (ci = 5 ∧ kd = 24)) (hv : ((k : Nat) : Int) = v) (h2 : n + 1 = n2) (kk : Gr xs L d y (pc + 3) lv (rf n2 :: st) n2 (znew s n) Q) : Gr xs L d y pc lv (it v :: st) n s Q := by
  subst h2
  refine Gr.step (pc2 := pc + 3) (st2 := rf (n + 1) :: st) (n2 := n + 1) (s2 := znew s n) hi rfl rfl ?_ kk
  unfold zstep
  have h1 : zsA (yo y) (yi y) (.anewarray idx) 3 (pc, lv, it v :: st, n, s) = none := rfl
  have h3 : zsB (yo y) (yi y) (.anewarray idx) 3 (pc, lv, it v :: st, n, s) = none := rfl
  have h4 : zsC (yo y) (yi y) (.anewarray idx) 3 (pc, lv, it v :: st, n, s) = none := rfl
  have h5 : zsD xs L (yo y) (yi y) (.anewarray idx) 3 (pc, lv, it v :: st, n, s) = none := rfl
  rw [h1, h3, h4, h5]
  simp only [zsE, it]
  rw [hc]
  dsimp only
  rw [h, if_pos ⟨hk, hv.symm⟩]
  rfl
theorem Cr.oinit {idx c : Nat} (hi : zi y pc = some (.invokespecial idx, 3)) (hc : zcal (yo y) (.invokespecial idx) = none) (ho : zoi (yo y) idx = true) (hn : 1 ≤ c ∧ c ≤ n) (hst : (st.map zcat).sum ≤ 8) (kk : Gr xs L d y (pc + 3) lv st n s Q) : Gr xs L d y pc lv (rf c :: st) n s Q := by
  refine Gr.step (pc2 := pc + 3) (st2 := st) (n2 := n) (s2 := s) hi rfl hc ?_ kk
  unfold zstep
  have h1 : zsA (yo y) (yi y) (.invokespecial idx) 3 (pc, lv, rf c :: st, n, s) = none := rfl
  have h3 : zsB (yo y) (yi y) (.invokespecial idx) 3 (pc, lv, rf c :: st, n, s) = none := rfl
  have h4 : zsC (yo y) (yi y) (.invokespecial idx) 3 (pc, lv, rf c :: st, n, s) = none := rfl
  have h5 : zsD xs L (yo y) (yi y) (.invokespecial idx) 3 (pc, lv, rf c :: st, n, s) = none := rfl
  rw [h1, h3, h4, h5]
  simp only [zsE, rf]
  rw [if_pos ⟨ho, hn.1, hn.2, hst⟩]
theorem Cr.putR {c w idx ci k : Nat} (ki wi : Int) (hi : zi y pc = some (.putfield idx, 3)) (hf : zfd (yo y) idx = some (ci, k, 1)) (hc : (zsh c).1 = ci) (hk : k < zf_n ci) (hn : c < n) (hw : 1 ≤ w ∧ w ≤ n) (hfin : (zf ci k).2.2.1 = false ∨ (yi y = true ∧ ci = yo y)) (hki : ((k : Nat) : Int) = ki) (hwi : ((w : Nat) : Int) = wi) (kk : Gr xs L d y (pc + 3) lv st n (zup s c ki wi) Q) : Gr xs L d y pc lv (rf w :: rf (c + 1) :: st) n s Q := by
  subst hki
  subst hwi
  refine Gr.step (pc2 := pc + 3) (st2 := st) (n2 := n) (s2 := zup s c k w) hi rfl rfl ?_ kk
  unfold zstep
  have h1 : zsA (yo y) (yi y) (.putfield idx) 3 (pc, lv, rf w :: rf (c + 1) :: st, n, s) = none := rfl
  have h3 : zsB (yo y) (yi y) (.putfield idx) 3 (pc, lv, rf w :: rf (c + 1) :: st, n, s) = none := rfl
  have h4 : zsC (yo y) (yi y) (.putfield idx) 3 (pc, lv, rf w :: rf (c + 1) :: st, n, s) = none := rfl
  have h5 : zsD xs L (yo y) (yi y) (.putfield idx) 3 (pc, lv, rf w :: rf (c + 1) :: st, n, s) = none := rfl
  rw [h1, h3, h4, h5]
  simp only [zsE, rf]
  rw [hf]
  simp only [Nat.add_sub_cancel]
  rw [if_pos ⟨by omega, by omega, hc, hk, trivial, hw.1, hw.2, hfin⟩]
theorem Cr.putI {c idx ci k t : Nat} {v : Int} (ki : Int) (hi : zi y pc = some (.putfield idx, 3)) (hf : zfd (yo y) idx = some (ci, k, t)) (ht : t = 0 ∨ t = 2 ∧ (v = 0 ∨ v = 1)) (hc : (zsh c).1 = ci) (hk : k < zf_n ci) (hn : c < n) (hfin : (zf ci k).2.2.1 = false ∨ (yi y = true ∧ ci = yo y)) (hki : ((k : Nat) : Int) = ki) (kk : Gr xs L d y (pc + 3) lv st n (zup s c ki v) Q) : Gr xs L d y pc lv (it v :: rf (c + 1) :: st) n s Q := by
  subst hki
  refine Gr.step (pc2 := pc + 3) (st2 := st) (n2 := n) (s2 := zup s c k v) hi rfl rfl ?_ kk
  unfold zstep
  have h1 : zsA (yo y) (yi y) (.putfield idx) 3 (pc, lv, it v :: rf (c + 1) :: st, n, s) = none := rfl
  have h3 : zsB (yo y) (yi y) (.putfield idx) 3 (pc, lv, it v :: rf (c + 1) :: st, n, s) = none := rfl
  have h4 : zsC (yo y) (yi y) (.putfield idx) 3 (pc, lv, it v :: rf (c + 1) :: st, n, s) = none := rfl
  have h5 : zsD xs L (yo y) (yi y) (.putfield idx) 3 (pc, lv, it v :: rf (c + 1) :: st, n, s) = none := rfl
  rw [h1, h3, h4, h5]
  simp only [zsE, rf, it]
  rw [hf]
  simp only [Nat.add_sub_cancel]
  rw [if_pos ⟨by omega, by omega, hc, hk, ht, hfin⟩]
theorem Cr.getR {c c2 idx ci k : Nat} (ki : Int) (hi : zi y pc = some (.getfield idx, 3)) (hf : zfd (yo y) idx = some (ci, k, 1)) (hb : (decide (c < 1000)) = true) (hc : (zsh c).1 = ci) (hk : k < zf_n ci) (hn : c < n) (hki : ((k : Nat) : Int) = ki) (hv : s c ki = ((c2 : Nat) : Int)) (kk : Gr xs L d y (pc + 3) lv (rf c2 :: st) n s Q) : Gr xs L d y pc lv (rf (c + 1) :: st) n s Q := by
  subst hki
  have h9 : c < 1000 := of_decide_eq_true hb
  refine Gr.step (pc2 := pc + 3) (st2 := rf c2 :: st) (n2 := n) (s2 := s) hi rfl rfl ?_ kk
  unfold zstep
  have h1 : zsA (yo y) (yi y) (.getfield idx) 3 (pc, lv, rf (c + 1) :: st, n, s) = none := rfl
  have h3 : zsB (yo y) (yi y) (.getfield idx) 3 (pc, lv, rf (c + 1) :: st, n, s) = none := rfl
  have h4 : zsC (yo y) (yi y) (.getfield idx) 3 (pc, lv, rf (c + 1) :: st, n, s) = none := rfl
  rw [h1, h3, h4]
  simp only [zsD, rf]
  rw [if_neg (by omega), hf]
  simp only [Nat.add_sub_cancel]
  rw [if_pos ⟨by omega, by omega, hc, hk⟩, if_pos trivial, hv, Int.toNat_natCast]
theorem Cr.alen {c N K : Nat} {v : Int} (hi : zi y pc = some (.arraylength, 1)) (hc : zsh c = (K, N)) (hK : 20 ≤ K ∧ K ≤ 24) (hn : c < n ∧ c < 1000) (hv : ((N : Nat) : Int) = v) (kk : Gr xs L d y (pc + 1) lv (it v :: st) n s Q) : Gr xs L d y pc lv (rf (c + 1) :: st) n s Q := by
  subst hv
  refine Gr.step (pc2 := pc + 1) (st2 := it (N : Int) :: st) (n2 := n) (s2 := s) hi rfl rfl ?_ kk
  unfold zstep
  have h1 : zsA (yo y) (yi y) .arraylength 1 (pc, lv, rf (c + 1) :: st, n, s) = none := rfl
  have h3 : zsB (yo y) (yi y) .arraylength 1 (pc, lv, rf (c + 1) :: st, n, s) = none := rfl
  have h4 : zsC (yo y) (yi y) .arraylength 1 (pc, lv, rf (c + 1) :: st, n, s) = none := rfl
  rw [h1, h3, h4]
  simp only [zsD, rf]
  rw [if_neg (by omega)]
  simp only [Nat.add_sub_cancel]
  rw [hc, if_pos ⟨by omega, by omega, hK.1, hK.2⟩]
  rfl
theorem Cr.iast {c : Nat} {i v : Int} {N : Nat} (hi : zi y pc = some (.iastore, 1)) (hc : zsh c = (20, N)) (hn : c < n) (h0 : 0 ≤ i) (h1 : i < (N : Int)) (kk : Gr xs L d y (pc + 1) lv st n (zup s c i v) Q) : Gr xs L d y pc lv (it v :: it i :: rf (c + 1) :: st) n s Q := by
  refine Gr.step (pc2 := pc + 1) (st2 := st) (n2 := n) (s2 := zup s c i v) hi rfl rfl ?_ kk
  unfold zstep
  have h2 : zsA (yo y) (yi y) .iastore 1 (pc, lv, it v :: it i :: rf (c + 1) :: st, n, s) = none := rfl
  have h3 : zsB (yo y) (yi y) .iastore 1 (pc, lv, it v :: it i :: rf (c + 1) :: st, n, s) = none := rfl
  have h4 : zsC (yo y) (yi y) .iastore 1 (pc, lv, it v :: it i :: rf (c + 1) :: st, n, s) = none := rfl
  have h5 : zsD xs L (yo y) (yi y) .iastore 1 (pc, lv, it v :: it i :: rf (c + 1) :: st, n, s) = none := rfl
  rw [h2, h3, h4, h5]
  simp only [zsE, rf, it]
  simp only [Nat.add_sub_cancel]
  rw [hc, if_pos ⟨by omega, by omega, rfl, h0, h1⟩]
theorem Cr.aast {c w K N : Nat} {i : Int} (wi : Int) (hi : zi y pc = some (.aastore, 1)) (hc : zsh c = (K, N)) (hn : c < n) (hw : 1 ≤ w ∧ w ≤ n) (hk : K = 23 ∧ (zsh (w - 1)).1 = 1 ∨ K = 24 ∧ (zsh (w - 1)).1 = 5) (h0 : 0 ≤ i) (h1 : i < (N : Int)) (hwi : ((w : Nat) : Int) = wi) (kk : Gr xs L d y (pc + 1) lv st n (zup s c i wi) Q) : Gr xs L d y pc lv (rf w :: it i :: rf (c + 1) :: st) n s Q := by
  subst hwi
  refine Gr.step (pc2 := pc + 1) (st2 := st) (n2 := n) (s2 := zup s c i w) hi rfl rfl ?_ kk
  unfold zstep
  have h2 : zsA (yo y) (yi y) .aastore 1 (pc, lv, rf w :: it i :: rf (c + 1) :: st, n, s) = none := rfl
  have h3 : zsB (yo y) (yi y) .aastore 1 (pc, lv, rf w :: it i :: rf (c + 1) :: st, n, s) = none := rfl
  have h4 : zsC (yo y) (yi y) .aastore 1 (pc, lv, rf w :: it i :: rf (c + 1) :: st, n, s) = none := rfl
  have h5 : zsD xs L (yo y) (yi y) .aastore 1 (pc, lv, rf w :: it i :: rf (c + 1) :: st, n, s) = none := rfl
  rw [h2, h3, h4, h5]
  simp only [zsE, rf, it]
  simp only [Nat.add_sub_cancel]
  rw [hc, if_pos ⟨by omega, by omega, hw.1, hw.2, hk, h0, h1⟩]
theorem Cr.aald {c c2 N K : Nat} {i : Int} (hi : zi y pc = some (.aaload, 1)) (hc : zsh c = (K, N)) (hK : K = 23 ∨ K = 24) (hn : c < n) (h0 : 0 ≤ i) (h1 : i < (N : Int)) (hv : s c i = ((c2 : Nat) : Int)) (kk : Gr xs L d y (pc + 1) lv (rf c2 :: st) n s Q) : Gr xs L d y pc lv (it i :: rf (c + 1) :: st) n s Q := by
  refine Gr.step (pc2 := pc + 1) (st2 := rf c2 :: st) (n2 := n) (s2 := s) hi rfl rfl ?_ kk
  unfold zstep
  have h2 : zsA (yo y) (yi y) .aaload 1 (pc, lv, it i :: rf (c + 1) :: st, n, s) = none := rfl
  have h3 : zsB (yo y) (yi y) .aaload 1 (pc, lv, it i :: rf (c + 1) :: st, n, s) = none := rfl
  have h4 : zsC (yo y) (yi y) .aaload 1 (pc, lv, it i :: rf (c + 1) :: st, n, s) = none := rfl
  rw [h2, h3, h4]
  simp only [zsD, rf, it]
  simp only [Nat.add_sub_cancel]
  rw [hc, if_pos ⟨by omega, by omega, hK, h0, h1⟩, hv, Int.toNat_natCast]
theorem Cr.callV {y2 na z : Nat} {as rest : List AV} {i : Instr} {Q2 : Option AV → Nat → Pl → Prop} (hi : zi y pc = some (i, z)) (hr : zret (yr y) i st = none) (hc : zcal (yo y) i = some y2) (hna : (zm y2).2.2.2.2.2.2.1 = na) (hst : st = as.reverse ++ rest) (hl : as.length = na) (hok : zcallok i y2 n as rest = true) (hcall : Er xs L d y2 as n s Q2) (k : ∀ r n2 s2, Q2 r n2 s2 → Gr xs L d y (pc + z) lv (r.toList ++ rest) n2 s2 Q) : Gr xs L d y pc lv st n s Q := Gr.call hi hr hc hna hst hl hok hcall k
end CRU
