/-! the machine does what the walker does: what is known of a method's run, and the first three groups of instructions -/
/-- what stands at the start, and is never written: statics, tables, texts, the script, links that bend -/
def zXt (sp : Nat → Value) (xs : Nat → Int) (L : Nat) (A : Nat → Prop) (U : State) (H : Heap) : Prop :=
  (∀ j, sp j = .null ∨ ∃ a, sp j = .ref a) ∧ ∃ t : Nat → Nat, (∀ j, j ≤ 6 → sp j = .ref (t j)) ∧ L < 2147483648 ∧ (∀ j, zR (xs j)) ∧
    (∀ j, j = 0 ∨ j = 1 ∨ j = 6 → va_T .int (t j) (zgiv xs L j).1 (fun i => .int (Int32.ofInt ((zgiv xs L j).2 (i : Int)))) A U H) ∧
    (∀ j, j = 4 ∨ j = 5 → va_T .byte (t j) (zgiv xs L j).1 (fun i => .int (Int32.ofInt ((zgiv xs L j).2 (i : Int)))) A U H) ∧
    (∀ j, j = 2 ∨ j = 3 → va_O "java/lang/String" (t j) A U H ∧ va_OF "java/lang/String" "coder" "B" (.int 0) (t j) A U H ∧ va_OF "java/lang/String" "value" "[B" (.ref (t (j + 2))) (t j) A U H) ∧
    va_Z "OneForOne" "KIND_ABOVE" "[I" (sp 0) A U H ∧ va_Z "OneForOne$Lake" "STEP" "[I" (sp 1) A U H ∧ va_Z "java/lang/String" "COMPACT_STRINGS" "Z" (.int 1) A U H ∧ va_Z "jdk/internal/util/Preconditions" "SIOOBE_FORMATTER" "Ljava/util/function/BiFunction;" (sp 7) A U H ∧
    vk_R "OneForOne" 42 "may 1 ; row base ; gain base * (hour < by + 1) ;" (t 2) U ∧ vk_R "OneForOne$Reader" 120 "off  on   at   base hour by   may  row  gain or   and  not  " (t 3) U ∧
    (∀ e ∈ zw_nl, va_Nw (zw_nl_w e) U) ∧ va_AO "OneForOne$Law" U ∧ va_AO "OneForOne$Sheet" U
theorem zXt.go {sp : Nat → Value} {xs : Nat → Int} {L : Nat} {A : Nat → Prop} {s U : State} {H : Heap} (h : zXt sp xs L A s s.heap) (hW : s.WarmedH U.vm) (hq : ∀ a : Nat, a < s.heap.size → ¬ A a → H[a]? = s.heap[a]?) : zXt sp xs L A U H := by
  obtain ⟨h0, t, h1, h2, h3, h4, h5, h6, h7, h8, h9, h10, h11, h12, h13, h14, h15⟩ := h
  refine ⟨h0, t, h1, h2, h3, fun j hj => ((h4 j hj).moved hW.alike).kept hq, fun j hj => ((h5 j hj).moved hW.alike).kept hq, fun j hj => ?_, (h7.moved hW.alike).kept hq, (h8.moved hW.alike).kept hq, (h9.moved hW.alike).kept hq, (h10.moved hW.alike).kept hq, h11.warm hW, h12.warm hW, fun e he => ?_, h14.moved hW.alike, h15.moved hW.alike⟩
  · obtain ⟨g1, g2, g3⟩ := h6 j hj
    exact ⟨(g1.moved hW.alike).kept hq, (g2.moved hW.alike).kept hq, (g3.moved hW.alike).kept hq⟩
  · exact va_Nw.warmM hW (h13 e he)
/-- a method's run: y its number, o its class, b its bytes -/
def zCtx (p : Program) (s : State) (m : MethodId) (args : Array Value) (meth : Method) (c : Code) (y o : Nat) (ini : Bool) (b : ByteArray) (nL : Nat) (cA : Nat → ClassId) (dC : Nat → ClassId) (dI : Nat → Nat → Nat) (sp : Nat → Value) (xs : Nat → Int) (L base : Nat) : Prop :=
  p.tables.exec = Jvm.exec ∧ c.code = b ∧ c.maxLocals = nL ∧ (∀ pc i z, zi y pc = some (i, z) → decode b pc = .ok (i, z) ∧ (zsw i = true ∨ z = zln i)) ∧
  s.vm.findClass (zc_n o) = some m.cls ∧ (∀ w ∈ zgw, w.before args s = true) ∧ va_K (dC, dI) classes (zTY cA) s ∧ zXt sp xs L (zA base) s s.heap ∧ base ≤ s.heap.size ∧ (ini = true → meth.name = "<init>")
/-- a place in it: the names and the pile hold what the walker's do, the heap holds the plane -/
def zLv (sp : Nat → Value) (ad : Nat → Nat) (n nL : Nat) (lv : LVs) (ls : Array Slot) : Prop :=
  ls.size = nL ∧ lv.length = nL ∧ lv_wf ls ∧ (∀ (i : Nat) (v : AV), lv[i]? = some (some v) → ls[i]? = some (Slot.val (ztr sp ad v))) ∧ ∀ (i : Nat) (v : AV), lv[i]? = some (some v) → zok n v
def zHp (s : State) (cA : Nat → ClassId) (dC : Nat → ClassId) (dI : Nat → Nat → Nat) (base : Nat) (ad : Nat → Nat) (n : Nat) (sq : Pl) (H : Heap) (locs : List Loc) : Prop :=
  zmok n sq ∧ va_P (dC, dI) classes (zwo cA ad n sq) H ∧ va_D (zA base) (zwo cA ad n sq) ∧ va_S (zA base) s.heap H locs
def zPl (n : Nat) (st : List AV) : Prop := ∀ v ∈ st, zok n v
theorem zPl.cons {n : Nat} {v : AV} {st : List AV} : zPl n (v :: st) ↔ zok n v ∧ zPl n st := List.forall_mem_cons
theorem zld_some {lv : LVs} {k : Nat} {v : AV} (h : zld lv k = some v) : lv[k]? = some (some v) := by
  unfold zld at h
  split at h
  · next w e => cases h; exact e
  · cases h
theorem ztr_cat (sp : Nat → Value) (ad : Nat → Nat) (hsp : ∀ j, sp j = .null ∨ ∃ a, sp j = .ref a) (v : AV) : (ztr sp ad v).category = zcat v := by
  rcases v with x | x | c
  · rfl
  · rfl
  · show (zrv sp ad c).category = 1
    unfold zrv
    split
    · rfl
    · split
      · rfl
      · rcases hsp (c - 100000) with h | ⟨a, h⟩ <;> rw [h] <;> rfl
theorem zkill_get {lv : LVs} {i j : Nat} {v : AV} (h : (zkill lv i)[j]? = some (some v)) : lv[j]? = some (some v) ∧ (j = i → zcat v = 1) := by
  unfold zkill at h
  split at h
  · next x e =>
    by_cases hj : j = i
    · subst hj
      rw [List.getElem?_set_self (List.getElem?_eq_some_iff.mp e).1] at h
      cases h
    · rw [List.getElem?_set_ne (Ne.symm hj)] at h
      exact ⟨h, fun q => absurd q hj⟩
  · next e =>
    refine ⟨h, fun q => ?_⟩
    subst q
    rcases v with x | x | c
    · rfl
    · exact absurd h (e x)
    · rfl
theorem zst1_get {lv : LVs} {i j : Nat} {w v : AV} (h : (zst1 lv i w)[j]? = some (some v)) : (j = i ∧ v = w) ∨ (j ≠ i ∧ lv[j]? = some (some v) ∧ (j + 1 = i → zcat v = 1)) := by
  cases i with
  | zero =>
    simp only [zst1] at h
    by_cases hj : j = 0
    · subst hj
      left
      rw [List.getElem?_set] at h
      simp at h
      exact ⟨rfl, h.2.symm⟩
    · rw [List.getElem?_set_ne (Ne.symm hj)] at h
      exact Or.inr ⟨hj, h, fun q => by omega⟩
  | succ k =>
    simp only [zst1] at h
    by_cases hj : j = k + 1
    · subst hj
      left
      rw [List.getElem?_set] at h
      simp at h
      exact ⟨rfl, h.2.symm⟩
    · rw [List.getElem?_set_ne (Ne.symm hj)] at h
      obtain ⟨h1, h2⟩ := zkill_get h
      exact Or.inr ⟨hj, h1, fun q => h2 (by omega)⟩
theorem zkill_len {lv : LVs} {i : Nat} : (zkill lv i).length = lv.length := by
  unfold zkill
  split
  · rw [List.length_set]
  · rfl
theorem zst1_len {lv : LVs} {i : Nat} {w : AV} : (zst1 lv i w).length = lv.length := by
  cases i with
  | zero => simp [zst1]
  | succ k => simp [zst1, zkill_len]
/-- the named places, as the kit lists them -/
def zls (sp : Nat → Value) (ad : Nat → Nat) (lv : LVs) : List (Nat × Value) := (List.range lv.length).filterMap fun j => (zld lv j).map fun v => (j, ztr sp ad v)
theorem zls_mem {sp : Nat → Value} {ad : Nat → Nat} {lv : LVs} {q : Nat × Value} : q ∈ zls sp ad lv ↔ ∃ v, lv[q.1]? = some (some v) ∧ q.2 = ztr sp ad v := by
  unfold zls
  rw [List.mem_filterMap]
  constructor
  · rintro ⟨j, -, h⟩
    cases e : zld lv j with
    | none => rw [e] at h; cases h
    | some v =>
      rw [e] at h
      cases h
      exact ⟨v, zld_some e, rfl⟩
  · rintro ⟨v, h1, h2⟩
    refine ⟨q.1, List.mem_range.mpr (List.getElem?_eq_some_iff.mp h1).1, ?_⟩
    have e : zld lv q.1 = some v := by unfold zld; rw [h1]
    rw [e]
    show some (q.1, ztr sp ad v) = some q
    rw [← h2]
theorem zLv.has {sp : Nat → Value} {ad : Nat → Nat} {n nL : Nat} {lv : LVs} {ls : Array Slot} (h : zLv sp ad n nL lv ls) : lv_has ls nL (zls sp ad lv) := by
  obtain ⟨h1, h2, h3, h4, -⟩ := h
  refine ⟨h1, h3, fun q hq => ?_⟩
  obtain ⟨v, e1, e2⟩ := zls_mem.mp hq
  rw [h4 _ _ e1, e2]
theorem zLv.st1 {sp : Nat → Value} {ad : Nat → Nat} {n nL : Nat} {lv : LVs} {ls ls2 : Array Slot} {i : Nat} {w : AV} (hsp : ∀ j, sp j = .null ∨ ∃ a, sp j = .ref a) (h : zLv sp ad n nL lv ls) (hw : zok n w)
    (h2 : lv_has ls2 nL ((i, ztr sp ad w) :: (zls sp ad lv).filter (fun q => !(q.1 == i) && !(q.1 + 1 == i && q.2.category == 2)))) : zLv sp ad n nL (zst1 lv i w) ls2 := by
  obtain ⟨-, g2, -, -, g5⟩ := h
  obtain ⟨k1, k2, k3⟩ := h2
  refine ⟨k1, by rw [zst1_len]; exact g2, k2, fun j v hj => ?_, fun j v hj => ?_⟩
  · rcases zst1_get hj with ⟨e1, e2⟩ | ⟨e1, e2, e3⟩
    · subst e1; subst e2
      exact k3 _ List.mem_cons_self
    · refine k3 (j, ztr sp ad v) (List.mem_cons_of_mem _ (List.mem_filter.mpr ⟨zls_mem.mpr ⟨v, e2, rfl⟩, ?_⟩))
      rw [ztr_cat sp ad hsp]
      by_cases q : j + 1 = i
      · simp [e1, e3 q]
      · simp [e1, q]
  · rcases zst1_get hj with ⟨e1, e2⟩ | ⟨e1, e2, e3⟩
    · subst e2; exact hw
    · exact g5 _ _ e2
theorem zLv.st2 {sp : Nat → Value} {ad : Nat → Nat} {n nL : Nat} {lv : LVs} {ls ls2 : Array Slot} {i : Nat} {w : AV} (hsp : ∀ j, sp j = .null ∨ ∃ a, sp j = .ref a) (h : zLv sp ad n nL lv ls) (hw : zok n w)
    (h2 : lv_has ls2 nL ((i, ztr sp ad w) :: (zls sp ad lv).filter (fun q => !(q.1 == i) && (!(q.1 == i + 1) && !(q.1 + 1 == i && q.2.category == 2))))) : zLv sp ad n nL (zst2 lv i w) ls2 := by
  obtain ⟨-, g2, -, -, g5⟩ := h
  obtain ⟨k1, k2, k3⟩ := h2
  have key : ∀ (j : Nat) (v : AV), (zst2 lv i w)[j]? = some (some v) → j ≠ i + 1 ∧ (zst1 lv i w)[j]? = some (some v) := by
    intro j v hj
    unfold zst2 at hj
    by_cases q : j = i + 1
    · subst q
      rw [List.getElem?_set] at hj
      simp at hj
    · rw [List.getElem?_set_ne (Ne.symm q)] at hj
      exact ⟨q, hj⟩
  refine ⟨k1, by unfold zst2; rw [List.length_set, zst1_len]; exact g2, k2, fun j v hj => ?_, fun j v hj => ?_⟩
  · obtain ⟨q0, hj⟩ := key j v hj
    rcases zst1_get hj with ⟨e1, e2⟩ | ⟨e1, e2, e3⟩
    · subst e1; subst e2
      exact k3 _ List.mem_cons_self
    · refine k3 (j, ztr sp ad v) (List.mem_cons_of_mem _ (List.mem_filter.mpr ⟨zls_mem.mpr ⟨v, e2, rfl⟩, ?_⟩))
      rw [ztr_cat sp ad hsp]
      by_cases q : j + 1 = i
      · simp [e1, q0, e3 q]
      · simp [e1, q0, q]
  · obtain ⟨q0, hj⟩ := key j v hj
    rcases zst1_get hj with ⟨e1, e2⟩ | ⟨e1, e2, e3⟩
    · subst e2; exact hw
    · exact g5 _ _ e2
