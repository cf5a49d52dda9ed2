/-! rules, an instruction each -/
variable {xs : Nat → Int} {L : Nat} {T : List (Nat × Int × Int)} {n d y pc : Nat} {lv lv2 : LVs} {st : List AV} {s : Pl} {Q : Option AV → Pl → Prop}
theorem Fr.iconst {v : Int} (hi : zi y pc = some (.iconst v, 1)) (h : -1 ≤ v ∧ v ≤ 5) (k : Fr xs L T n d y (pc + 1) lv (it v :: st) s Q) : Fr xs L T n d y pc lv (st) s Q := Fr.sA hi rfl rfl (by simp only [zsA, it]; rw [if_pos h]) k
theorem Fr.bipush {v : Int} (hi : zi y pc = some (.bipush v, 2)) (h : -128 ≤ v ∧ v < 128) (k : Fr xs L T n d y (pc + 2) lv (it v :: st) s Q) : Fr xs L T n d y pc lv (st) s Q := Fr.sA hi rfl rfl (by simp only [zsA, it]; rw [if_pos h]) k
theorem Fr.sipush {v : Int} (hi : zi y pc = some (.sipush v, 3)) (h : -32768 ≤ v ∧ v < 32768) (k : Fr xs L T n d y (pc + 3) lv (it v :: st) s Q) : Fr xs L T n d y pc lv (st) s Q := Fr.sA hi rfl rfl (by simp only [zsA, it]; rw [if_pos h]) k
theorem Fr.lconst {v : Fin 2} (hi : zi y pc = some (.lconst v, 1)) (k : Fr xs L T n d y (pc + 1) lv (lg ((v : Nat) : Int) :: st) s Q) : Fr xs L T n d y pc lv (st) s Q := Fr.sA hi rfl rfl (by rfl) k
theorem Fr.ildn {k : Fin 4} {v : Int} (hi : zi y pc = some (.iload_n k, 1)) (h : zld lv k = some (it v)) (k : Fr xs L T n d y (pc + 1) lv (it v :: st) s Q) : Fr xs L T n d y pc lv (st) s Q := Fr.sA hi rfl rfl (by simp only [zsA]; rw [h]; rfl) k
theorem Fr.ild {k : Nat} {v : Int} (hi : zi y pc = some (.iload k, 2)) (h : zld lv k = some (it v)) (k : Fr xs L T n d y (pc + 2) lv (it v :: st) s Q) : Fr xs L T n d y pc lv (st) s Q := Fr.sA hi rfl rfl (by simp only [zsA]; rw [h]; rfl) k
theorem Fr.lldn {k : Fin 4} {v : Int} (hi : zi y pc = some (.lload_n k, 1)) (h : zld lv k = some (lg v)) (k : Fr xs L T n d y (pc + 1) lv (lg v :: st) s Q) : Fr xs L T n d y pc lv (st) s Q := Fr.sA hi rfl rfl (by simp only [zsA]; rw [h]; rfl) k
theorem Fr.lld {k : Nat} {v : Int} (hi : zi y pc = some (.lload k, 2)) (h : zld lv k = some (lg v)) (k : Fr xs L T n d y (pc + 2) lv (lg v :: st) s Q) : Fr xs L T n d y pc lv (st) s Q := Fr.sA hi rfl rfl (by simp only [zsA]; rw [h]; rfl) k
theorem Fr.aldn {k : Fin 4} {c : Nat} (hi : zi y pc = some (.aload_n k, 1)) (h : zld lv k = some (rf c)) (hc : 1 ≤ c ∧ c ≤ 100006) (k : Fr xs L T n d y (pc + 1) lv (rf c :: st) s Q) : Fr xs L T n d y pc lv (st) s Q := Fr.sA hi rfl rfl (by simp only [zsA]; rw [h]; simp only [rf]; rw [if_pos hc]) k
theorem Fr.ald {k : Nat} {c : Nat} (hi : zi y pc = some (.aload k, 2)) (h : zld lv k = some (rf c)) (hc : 1 ≤ c ∧ c ≤ 100006) (k : Fr xs L T n d y (pc + 2) lv (rf c :: st) s Q) : Fr xs L T n d y pc lv (st) s Q := Fr.sA hi rfl rfl (by simp only [zsA]; rw [h]; simp only [rf]; rw [if_pos hc]) k
theorem Fr.istn {k : Fin 4} {v : Int} (hi : zi y pc = some (.istore_n k, 1)) (hk : (k : Nat) < lv.length) (h : zst1 lv k (it v) = lv2) (k : Fr xs L T n d y (pc + 1) lv2 (st) s Q) : Fr xs L T n d y pc lv (it v :: st) s Q := Fr.sA hi rfl rfl (by subst h; simp only [zsA, it]; rw [if_pos hk]) k
theorem Fr.ist {k : Nat} {v : Int} (hi : zi y pc = some (.istore k, 2)) (hk : (k : Nat) < lv.length) (h : zst1 lv k (it v) = lv2) (k : Fr xs L T n d y (pc + 2) lv2 (st) s Q) : Fr xs L T n d y pc lv (it v :: st) s Q := Fr.sA hi rfl rfl (by subst h; simp only [zsA, it]; rw [if_pos hk]) k
theorem Fr.astn {k : Fin 4} {c : Nat} (hi : zi y pc = some (.astore_n k, 1)) (hk : (k : Nat) < lv.length) (hc : 1 ≤ c ∧ c ≤ 100006) (h : zst1 lv k (rf c) = lv2) (k : Fr xs L T n d y (pc + 1) lv2 (st) s Q) : Fr xs L T n d y pc lv (rf c :: st) s Q := Fr.sA hi rfl rfl (by subst h; simp only [zsA, rf]; rw [if_pos ⟨hk, hc⟩]) k
theorem Fr.ast {k : Nat} {c : Nat} (hi : zi y pc = some (.astore k, 2)) (hk : (k : Nat) < lv.length) (hc : 1 ≤ c ∧ c ≤ 100006) (h : zst1 lv k (rf c) = lv2) (k : Fr xs L T n d y (pc + 2) lv2 (st) s Q) : Fr xs L T n d y pc lv (rf c :: st) s Q := Fr.sA hi rfl rfl (by subst h; simp only [zsA, rf]; rw [if_pos ⟨hk, hc⟩]) k
theorem Fr.lstn {k : Fin 4} {v : Int} (hi : zi y pc = some (.lstore_n k, 1)) (hk : (k : Nat) + 1 < lv.length) (h : zst2 lv k (lg v) = lv2) (k : Fr xs L T n d y (pc + 1) lv2 (st) s Q) : Fr xs L T n d y pc lv (lg v :: st) s Q := Fr.sA hi rfl rfl (by subst h; simp only [zsA, lg]; rw [if_pos hk]) k
theorem Fr.lst {k : Nat} {v : Int} (hi : zi y pc = some (.lstore k, 2)) (hk : (k : Nat) + 1 < lv.length) (h : zst2 lv k (lg v) = lv2) (k : Fr xs L T n d y (pc + 2) lv2 (st) s Q) : Fr xs L T n d y pc lv (lg v :: st) s Q := Fr.sA hi rfl rfl (by subst h; simp only [zsA, lg]; rw [if_pos hk]) k
theorem Fr.iinc {k : Nat} {v c : Int} (hi : zi y pc = some (.iinc k c, 3)) (hk : k < lv.length) (hv : zld lv k = some (it v)) (h : zst1 lv k (it (zw (v + c))) = lv2) (k : Fr xs L T n d y (pc + 3) lv2 (st) s Q) : Fr xs L T n d y pc lv (st) s Q := Fr.sA hi rfl rfl (by subst h; simp only [zsA]; rw [if_pos hk, hv]; rfl) k
theorem Fr.dup {v : AV} (hi : zi y pc = some (.dup, 1)) (h : zcat v = 1) (k : Fr xs L T n d y (pc + 1) lv (v :: v :: st) s Q) : Fr xs L T n d y pc lv (v :: st) s Q := Fr.sA hi rfl rfl (by simp only [zsA]; rw [if_pos h]) k
theorem Fr.dup2 {v w : AV} (hi : zi y pc = some (.dup2, 1)) (h : zcat v = 1 ∧ zcat w = 1) (k : Fr xs L T n d y (pc + 1) lv (v :: w :: v :: w :: st) s Q) : Fr xs L T n d y pc lv (v :: w :: st) s Q := Fr.sA hi rfl rfl (by simp only [zsA]; rw [if_pos h]) k
theorem Fr.pop {v : AV} (hi : zi y pc = some (.pop, 1)) (h : zcat v = 1) (k : Fr xs L T n d y (pc + 1) lv (st) s Q) : Fr xs L T n d y pc lv (v :: st) s Q := Fr.sA hi rfl rfl (by simp only [zsA]; rw [if_pos h]) k
theorem Fr.iadd {a b : Int} (hi : zi y pc = some (.iadd, 1)) (k : Fr xs L T n d y (pc + 1) lv (it (zw (a + b)) :: st) s Q) : Fr xs L T n d y pc lv (it b :: it a :: st) s Q := Fr.sB hi rfl rfl rfl (by rfl) k
theorem Fr.isub {a b : Int} (hi : zi y pc = some (.isub, 1)) (k : Fr xs L T n d y (pc + 1) lv (it (zw (a - b)) :: st) s Q) : Fr xs L T n d y pc lv (it b :: it a :: st) s Q := Fr.sB hi rfl rfl rfl (by rfl) k
theorem Fr.imul {a b : Int} (hi : zi y pc = some (.imul, 1)) (k : Fr xs L T n d y (pc + 1) lv (it (zw (a * b)) :: st) s Q) : Fr xs L T n d y pc lv (it b :: it a :: st) s Q := Fr.sB hi rfl rfl rfl (by rfl) k
theorem Fr.ishl {a b : Int} (hi : zi y pc = some (.ishl, 1)) (k : Fr xs L T n d y (pc + 1) lv (it (zshl a b) :: st) s Q) : Fr xs L T n d y pc lv (it b :: it a :: st) s Q := Fr.sB hi rfl rfl rfl (by rfl) k
theorem Fr.ishr {a b : Int} (hi : zi y pc = some (.ishr, 1)) (k : Fr xs L T n d y (pc + 1) lv (it (zshr a b) :: st) s Q) : Fr xs L T n d y pc lv (it b :: it a :: st) s Q := Fr.sB hi rfl rfl rfl (by rfl) k
theorem Fr.iushr {a b : Int} (hi : zi y pc = some (.iushr, 1)) (k : Fr xs L T n d y (pc + 1) lv (it (zushr a b) :: st) s Q) : Fr xs L T n d y pc lv (it b :: it a :: st) s Q := Fr.sB hi rfl rfl rfl (by rfl) k
theorem Fr.iand {a b : Int} (hi : zi y pc = some (.iand, 1)) (k : Fr xs L T n d y (pc + 1) lv (it (zand a b) :: st) s Q) : Fr xs L T n d y pc lv (it b :: it a :: st) s Q := Fr.sB hi rfl rfl rfl (by rfl) k
theorem Fr.ior {a b : Int} (hi : zi y pc = some (.ior, 1)) (k : Fr xs L T n d y (pc + 1) lv (it (zor a b) :: st) s Q) : Fr xs L T n d y pc lv (it b :: it a :: st) s Q := Fr.sB hi rfl rfl rfl (by rfl) k
theorem Fr.ixor {a b : Int} (hi : zi y pc = some (.ixor, 1)) (k : Fr xs L T n d y (pc + 1) lv (it (zxor a b) :: st) s Q) : Fr xs L T n d y pc lv (it b :: it a :: st) s Q := Fr.sB hi rfl rfl rfl (by rfl) k
theorem Fr.idiv {a b : Int} (hi : zi y pc = some (.idiv, 1)) (h : ¬ b = 0) (k : Fr xs L T n d y (pc + 1) lv (it (zdiv a b) :: st) s Q) : Fr xs L T n d y pc lv (it b :: it a :: st) s Q := Fr.sB hi rfl rfl rfl (by simp only [zsB, it]; rw [if_neg h]) k
theorem Fr.irem {a b : Int} (hi : zi y pc = some (.irem, 1)) (h : ¬ b = 0) (k : Fr xs L T n d y (pc + 1) lv (it (zrem a b) :: st) s Q) : Fr xs L T n d y pc lv (it b :: it a :: st) s Q := Fr.sB hi rfl rfl rfl (by simp only [zsB, it]; rw [if_neg h]) k
theorem Fr.ineg {a : Int} (hi : zi y pc = some (.ineg, 1)) (k : Fr xs L T n d y (pc + 1) lv (it (zw (-a)) :: st) s Q) : Fr xs L T n d y pc lv (it a :: st) s Q := Fr.sB hi rfl rfl rfl (by rfl) k
theorem Fr.i2b {a : Int} (hi : zi y pc = some (.i2b, 1)) (k : Fr xs L T n d y (pc + 1) lv (it (zb8 a) :: st) s Q) : Fr xs L T n d y pc lv (it a :: st) s Q := Fr.sB hi rfl rfl rfl (by rfl) k
theorem Fr.i2s {a : Int} (hi : zi y pc = some (.i2s, 1)) (k : Fr xs L T n d y (pc + 1) lv (it (zs16 a) :: st) s Q) : Fr xs L T n d y pc lv (it a :: st) s Q := Fr.sB hi rfl rfl rfl (by rfl) k
theorem Fr.i2c {a : Int} (hi : zi y pc = some (.i2c, 1)) (k : Fr xs L T n d y (pc + 1) lv (it (zc16 a) :: st) s Q) : Fr xs L T n d y pc lv (it a :: st) s Q := Fr.sB hi rfl rfl rfl (by rfl) k
theorem Fr.i2l {a : Int} (hi : zi y pc = some (.i2l, 1)) (k : Fr xs L T n d y (pc + 1) lv (lg a :: st) s Q) : Fr xs L T n d y pc lv (it a :: st) s Q := Fr.sB hi rfl rfl rfl (by rfl) k
theorem Fr.l2i {a : Int} (hi : zi y pc = some (.l2i, 1)) (k : Fr xs L T n d y (pc + 1) lv (it (zw a) :: st) s Q) : Fr xs L T n d y pc lv (lg a :: st) s Q := Fr.sB hi rfl rfl rfl (by rfl) k
theorem Fr.ladd {a b : Int} (hi : zi y pc = some (.ladd, 1)) (k : Fr xs L T n d y (pc + 1) lv (lg (zl (a + b)) :: st) s Q) : Fr xs L T n d y pc lv (lg b :: lg a :: st) s Q := Fr.sB hi rfl rfl rfl (by rfl) k
theorem Fr.lmul {a b : Int} (hi : zi y pc = some (.lmul, 1)) (k : Fr xs L T n d y (pc + 1) lv (lg (zl (a * b)) :: st) s Q) : Fr xs L T n d y pc lv (lg b :: lg a :: st) s Q := Fr.sB hi rfl rfl rfl (by rfl) k
theorem Fr.lrem {a b : Int} (hi : zi y pc = some (.lrem, 1)) (h : ¬ b = 0) (k : Fr xs L T n d y (pc + 1) lv (lg (zlrem a b) :: st) s Q) : Fr xs L T n d y pc lv (lg b :: lg a :: st) s Q := Fr.sB hi rfl rfl rfl (by simp only [zsB, lg]; rw [if_neg h]) k
theorem Fr.lcmp {a b : Int} (hi : zi y pc = some (.lcmp, 1)) (k : Fr xs L T n d y (pc + 1) lv (it (zlcmp a b) :: st) s Q) : Fr xs L T n d y pc lv (lg b :: lg a :: st) s Q := Fr.sB hi rfl rfl rfl (by rfl) k
theorem Fr.ldc {idx : Nat} {v : AV} (hi : zi y pc = some (.ldc idx, 2)) (h : zldc (yo y) idx = some v) (k : Fr xs L T n d y (pc + 2) lv (v :: st) s Q) : Fr xs L T n d y pc lv st s Q := Fr.sC hi rfl rfl rfl rfl (by simp only [zsC]; rw [h]) k
theorem Fr.ldcw {idx : Nat} {v : Int} (hi : zi y pc = some (.ldc_w idx, 3)) (h : zldc (yo y) idx = some (it v)) (k : Fr xs L T n d y (pc + 3) lv (it v :: st) s Q) : Fr xs L T n d y pc lv st s Q := Fr.sC hi rfl rfl rfl rfl (by simp only [zsC]; rw [h]; rfl) k
theorem Fr.ldc2 {idx : Nat} {v : AV} (hi : zi y pc = some (.ldc2_w idx, 3)) (h : zldc2 (yo y) idx = some v) (k : Fr xs L T n d y (pc + 3) lv (v :: st) s Q) : Fr xs L T n d y pc lv st s Q := Fr.sC hi rfl rfl rfl rfl (by simp only [zsC]; rw [h]) k
theorem Fr.gets {idx : Nat} {v : AV} (hi : zi y pc = some (.getstatic idx, 3)) (h : zgs (yo y) idx = some v) (k : Fr xs L T n d y (pc + 3) lv (v :: st) s Q) : Fr xs L T n d y pc lv st s Q := Fr.sC hi rfl rfl rfl rfl (by simp only [zsC]; rw [h]) k
theorem Fr.tsw {z q : Nat} {df lo hi2 x off : Int} {offs : Array Int} (hi : zi y pc = some (.tableswitch df lo hi2 offs, z)) (hx : ¬ (x < lo ∨ hi2 < x)) (ho : offs[(x - lo).toNat]? = some off) (hq : zbr pc off = some q) (k : Fr xs L T n d y q lv st s Q) : Fr xs L T n d y pc lv (it x :: st) s Q :=
  Fr.sC hi rfl rfl rfl rfl (by simp only [zsC, it]; rw [if_neg hx, ho]; dsimp only; rw [hq]) k
theorem Fr.tsd {z q : Nat} {df lo hi2 x : Int} {offs : Array Int} (hi : zi y pc = some (.tableswitch df lo hi2 offs, z)) (hx : x < lo ∨ hi2 < x) (hq : zbr pc df = some q) (k : Fr xs L T n d y q lv st s Q) : Fr xs L T n d y pc lv (it x :: st) s Q :=
  Fr.sC hi rfl rfl rfl rfl (by simp only [zsC, it]; rw [if_pos hx, hq]) k
theorem Fr.lsw {z q : Nat} {df x off : Int} {ps : Array (Int × Int)} (hi : zi y pc = some (.lookupswitch df ps, z)) (hs : (ps.toList.zip (ps.toList.drop 1)).all (fun (a, next) => a.1 < next.1) = true) (ho : Op.lookupswitch.offset ps.toList df x = off) (hq : zbr pc off = some q) (k : Fr xs L T n d y q lv st s Q) : Fr xs L T n d y pc lv (it x :: st) s Q :=
  Fr.sC hi rfl rfl rfl rfl (by simp only [zsC, it]; rw [if_pos hs, ho, hq]) k
/-- calls are fit to be made -/
theorem zok_V {i : Instr} {y2 : Nat} {as rest : List AV} (hm : zmode i = 0) (hy : y2 < 247) (hk : (zm y2).2.2.2.2.2.2.2 = false) (hn : (zm y2).1.name ≠ "<init>") (hr : zrecv y2 n as = true) (hc : (as.all fun v => decide (zcat v = 1)) = true) (hs : (rest.map zcat).sum ≤ 8) : zcallok i y2 n as rest = true := by
  unfold zcallok
  rw [hm, hc, hk, hr, decide_eq_true hs, decide_eq_true hy, decide_eq_true hn]
  rfl
theorem zok_S {i : Instr} {y2 : Nat} {as rest : List AV} (hm : zmode i = 1) (hy : y2 < 247) (hk : (zm y2).2.2.2.2.2.2.2 = true) (hc : (as.all fun v => decide (zcat v = 1)) = true) (hs : (rest.map zcat).sum ≤ 8) : zcallok i y2 n as rest = true := by
  unfold zcallok
  rw [hm, hc, hk, decide_eq_true hs, decide_eq_true hy]
  rfl
theorem zok_I {i : Instr} {y2 : Nat} {as rest : List AV} (hm : zmode i = 2) (hy : y2 < 247) (hn : (zm y2).1.name = "<init>") (hv : (zm y2).2.2.2.2.2.1 = 0) (hr : zrecv y2 n as = true) (hc : (as.all fun v => decide (zcat v = 1)) = true) (hs : (rest.map zcat).sum ≤ 8) : zcallok i y2 n as rest = true := by
  unfold zcallok
  rw [hm, hc, hr, decide_eq_true hs, decide_eq_true hy, decide_eq_true hn, decide_eq_true hv]
  rfl
theorem zrecv_c {y2 c : Nat} {as : List AV} (hc : c < n) (ho : (zsh c).1 = (zm y2).2.2.2.2.1) : zrecv y2 n (rf (c + 1) :: as) = true := by
  simp only [zrecv, rf, Nat.add_sub_cancel, Bool.or_eq_true, Bool.and_eq_true, decide_eq_true_eq]
  exact Or.inl ⟨⟨by omega, by omega⟩, ho⟩
theorem zrecv_s {y2 c : Nat} {as : List AV} (hc : c = 100002 ∨ c = 100003) (ho : (zm y2).2.2.2.2.1 = 9) : zrecv y2 n (rf c :: as) = true := by
  simp only [zrecv, rf, Bool.or_eq_true, Bool.and_eq_true, decide_eq_true_eq]
  exact Or.inr ⟨hc, ho⟩
