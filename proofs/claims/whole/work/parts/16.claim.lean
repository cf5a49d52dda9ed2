/-! THE CLAIM OUT OF ONE WALK OF THE LAW'S BODY. Your part is whole_start (and what it stands on); all else here is the same for every law, but numbers. -/
def R_law : String := "OneForOneLaw"
def lw_P (b : Addr) (xs : List Int32) (args : Array Value) (s : State) : Prop := args = #[.ref b] ∧ s.IntsAt b xs ∧ xs.length ≤ 3584 ∧ (Jvm.Cond.and given_1 narrow_1).before args s = true
def lw_Q (_ : Array Value) (s : State) (o : Outcome) (t : State) : Prop := o = .returned (some (.int 1)) ∧ Framed s o t [] 600000 7302250
def lw_Z (below : List Frame) (a : Array Value) (s : State) : State → Prop := fun t => ∃ o, t.status = .running ∧ Ended t below o ∧ lw_Q a s o t
/-- the law's own end, with 1 on the stack, nothing written that was there before, its room as the claim has it -/
theorem lw_ret {p : Program} {l : Launch} {e : Env} {s : State} {m : MethodId} {below : List Frame} {meth : Method} {c : Code} {b : Nat} (hx : p.tables.exec = Jvm.exec) (hb : c.code = code) (hr : meth.sig.returnType = ret) (hlocks : meth.locks = false) {pc : Nat} {H : Heap} {ls : Array Slot} (hdg : decode code pc = .ok (.ireturn, 1)) : W p l e room_1 s m #[Value.ref b] below meth c H [] 600000 7302250 (lw_Z below #[Value.ref b] s) (F0 m pc ls [.int 1]) := by
  intro T hT X
  obtain ⟨fs, hret, hrun, hended, hW, hframe⟩ := X.leave (v := some (.int 1)) (hlocks := hlocks) (fun h => by rw [hr] at h; cases h)
  have hmeth' : T.vm.method? m = some meth := X.method'
  refine ⟨T.setFrames fs, ?_, .returned (some (.int 1)), hrun, hended, rfl, ⟨_, rfl⟩, hW, hframe⟩
  jvm_step X.here [X.here.top, hx, hb, hdg, hmeth', hr, ret, narrow_b1]
  (try refine ⟨rfl, ?_⟩); (try refine ⟨rfl, ?_⟩)
  first | (intro acts; rw [hret _ acts rfl rfl rfl]) | rw [hret _ _ rfl rfl rfl]
  exact Steps.refl _
/-- what holds at the law's entry: the machine, the code, the tables' words (any of lw_tbl by 'hts w (by decide +kernel)'), the script of L ints xs at the cell b, what the Statement gives of the start (any of its parts by flat_of_before) -/
def lw_At (p : Program) (s : State) (m : MethodId) (meth : Method) (c : Code) (b L : Nat) (xs : Nat → Int32) : Prop :=
  p.tables.exec = Jvm.exec ∧ c.code = code ∧ meth.sig.returnType = ret ∧ c.maxLocals = 4 ∧ s.vm.findClass R_law = some m.cls ∧ (∀ w ∈ lw_tbl, w.before #[Value.ref b] s = true) ∧ va_X b L xs s s.heap ∧ b < s.heap.size ∧ meth.locks = false ∧ (Jvm.Cond.and given_1 narrow_1).before #[Value.ref b] s = true

/-! FROM THE WALKER TO THE CLAIM -/
theorem zq_ka : ∀ j, j < 6 → (Cond.eq (.elem (.static "OneForOne" "KIND_ABOVE" "[I") (.int (Int32.ofNat j))) (.int (Int32.ofInt ((zgv_L.getD 0 []).getD j 0)))) ∈ flatC (Jvm.Cond.and given_1 narrow_1) := by decide +kernel
theorem zq_st : ∀ j, j < 6 → (Cond.eq (.elem (.static "OneForOne$Lake" "STEP" "[I") (.int (Int32.ofNat j))) (.int (Int32.ofInt ((zgv_L.getD 1 []).getD j 0)))) ∈ flatC (Jvm.Cond.and given_1 narrow_1) := by decide +kernel
def zq_tm : Nat → Term := fun i => if i = 0 then .string "OneForOne" 42 else .string "OneForOne$Reader" 120
def zq_len : List Nat := [48, 60]
def zq_byt : List (List Int32) := [(zgv_L.getD 4 []).map Int32.ofInt, (zgv_L.getD 5 []).map Int32.ofInt]
theorem zq_el : ∀ i, i < 2 → ∀ j, j < zq_len.getD i 0 → (Cond.eq (.elem (.field (zq_tm i) "java/lang/String" "value" "[B") (.int (Int32.ofNat j))) (.int ((zq_byt.getD i []).getD j 0))) ∈ flatC (Jvm.Cond.and given_1 narrow_1) := by decide +kernel
theorem zq_ex : ∀ i, i < 2 → (Cond.exactly (zq_tm i) "java/lang/String") ∈ flatC (Jvm.Cond.and given_1 narrow_1) ∧ (Cond.eq (.field (zq_tm i) "java/lang/String" "coder" "B") (.int 0)) ∈ flatC (Jvm.Cond.and given_1 narrow_1) ∧ (Cond.arrayOf (.field (zq_tm i) "java/lang/String" "value" "[B") .byte) ∈ flatC (Jvm.Cond.and given_1 narrow_1) ∧ (Cond.eq (.length (.field (zq_tm i) "java/lang/String" "value" "[B")) (.int (Int32.ofNat (zq_len.getD i 0)))) ∈ flatC (Jvm.Cond.and given_1 narrow_1) := by decide +kernel
theorem zq_ne : (Cond.not (Cond.eq (zq_tm 0) (zq_tm 1))) ∈ flatC (Jvm.Cond.and given_1 narrow_1) ∨ (Cond.not (Cond.eq (zq_tm 1) (zq_tm 0))) ∈ flatC (Jvm.Cond.and given_1 narrow_1) := by decide +kernel
theorem zq_mi : (Cond.arrayOf (.static "OneForOne" "KIND_ABOVE" "[I") .int) ∈ flatC (Jvm.Cond.and given_1 narrow_1) ∧ (Cond.eq (.length (.static "OneForOne" "KIND_ABOVE" "[I")) (.int 6)) ∈ flatC (Jvm.Cond.and given_1 narrow_1) ∧ (Cond.arrayOf (.static "OneForOne$Lake" "STEP" "[I") .int) ∈ flatC (Jvm.Cond.and given_1 narrow_1) ∧ (Cond.eq (.length (.static "OneForOne$Lake" "STEP" "[I")) (.int 6)) ∈ flatC (Jvm.Cond.and given_1 narrow_1) ∧ (Cond.eq (.static "java/lang/String" "COMPACT_STRINGS" "Z") (.int 1)) ∈ flatC (Jvm.Cond.and given_1 narrow_1) ∧ (Cond.isRef (.static "jdk/internal/util/Preconditions" "SIOOBE_FORMATTER" "Ljava/util/function/BiFunction;")) ∈ flatC (Jvm.Cond.and given_1 narrow_1) := by decide +kernel
theorem zq_lw : (Cond.laysStatic "OneForOne" "KIND_ABOVE" "[I") ∈ lw_tbl ∧ (Cond.laysStatic "OneForOne$Lake" "STEP" "[I") ∈ lw_tbl ∧ (Cond.laysStatic "java/lang/String" "COMPACT_STRINGS" "Z") ∈ lw_tbl ∧ (Cond.laysStatic "jdk/internal/util/Preconditions" "SIOOBE_FORMATTER" "Ljava/util/function/BiFunction;") ∈ lw_tbl ∧ (Cond.stringRef "OneForOne" 42 "may 1 ; row base ; gain base * (hour < by + 1) ;") ∈ lw_tbl ∧ (Cond.stringRef "OneForOne$Reader" 120 "off  on   at   base hour by   may  row  gain or   and  not  ") ∈ lw_tbl := by decide +kernel
theorem zq_ini : (Cond.initialized "OneForOne") ∈ lw_tbl ∧ (Cond.initialized "OneForOne$Lake") ∈ lw_tbl ∧ (Cond.initialized "java/lang/String") ∈ lw_tbl ∧ (Cond.initialized "jdk/internal/util/Preconditions") ∈ lw_tbl := by decide +kernel
theorem zq_byte : ∀ i, i < 2 → ∀ j, j < zq_len.getD i 0 → (zq_byt.getD i []).getD j 0 = Int32.ofInt ((zgv_L.getD (4 + i) []).getD j 0) := by decide +kernel
theorem zXt_start {s : State} {b L : Nat} {xs : Nat → Int32} (hL : L ≤ 3584) (hts : ∀ w ∈ lw_tbl, w.before #[Value.ref b] s = true) (hX : va_X b L xs s s.heap) (hbl : b < s.heap.size) (hgv : (Jvm.Cond.and given_1 narrow_1).before #[Value.ref b] s = true) :
    ∃ sp : Nat → Value, sp 6 = .ref b ∧ zXt sp (fun j => (xs j).toInt) L (zA s.heap.size) s s.heap := by
  have hA : ∀ a : Nat, a < s.heap.size → ¬ zA s.heap.size a := fun a h h2 => by
    unfold zA at h2
    omega
  have hs := flat_of_before _ hgv
  obtain ⟨m1, m2, m3, m4, m5, m6⟩ := zq_mi
  obtain ⟨w1, w2, w3, w4, w5, w6⟩ := zq_lw
  obtain ⟨i1, i2, i3, i4⟩ := zq_ini
  obtain ⟨t0, e0, T0⟩ := va_Tof (f := fun j => .int (Int32.ofInt ((zgv_L.getD 0 []).getD j 0))) (N := 6) (by decide) (hs _ m1) (va_eqt (hs _ m2)) (fun j hj => va_eqt (hs _ (zq_ka j hj))) hA
  obtain ⟨t1, e1, T1⟩ := va_Tof (f := fun j => .int (Int32.ofInt ((zgv_L.getD 1 []).getD j 0))) (N := 6) (by decide) (hs _ m3) (va_eqt (hs _ m4)) (fun j hj => va_eqt (hs _ (zq_st j hj))) hA
  obtain ⟨adK, adV, hS, hE⟩ := vk_Sof (N := 2) (tm := zq_tm) (len := zq_len) (byt := zq_byt) (by decide) (fun i hi => hs _ (zq_ex i hi).1) (fun i hi => hs _ (zq_ex i hi).2.1) (fun i hi => hs _ (zq_ex i hi).2.2.1) (fun i hi => hs _ (zq_ex i hi).2.2.2) (fun i hi j hj => hs _ (zq_el i hi j hj)) (fun i j hi hj hij => by
    rcases (show (i = 0 ∧ j = 1) ∨ (i = 1 ∧ j = 0) by omega) with ⟨rfl, rfl⟩ | ⟨rfl, rfl⟩
    · rcases zq_ne with h | h
      · exact Or.inl (hs _ h)
      · exact Or.inr (hs _ h)
    · rcases zq_ne with h | h
      · exact Or.inr (hs _ h)
      · exact Or.inl (hs _ h)) hA
  obtain ⟨vq, hvq, hZq⟩ : ∃ vq : Value, (vq = .null ∨ ∃ a, vq = .ref a) ∧ va_Z "jdk/internal/util/Preconditions" "SIOOBE_FORMATTER" "Ljava/util/function/BiFunction;" vq (zA s.heap.size) s s.heap := by
    rcases va_Zqof (hts _ w4) (hts _ i4) (hs _ m6) hA with h | ⟨t, h⟩
    · exact ⟨_, Or.inl rfl, h⟩
    · exact ⟨_, Or.inr ⟨t, rfl⟩, h⟩
  have hT4 : va_T .byte (adV 0) 48 (fun i => .int (Int32.ofInt ((zgv_L.getD 4 []).getD i 0))) (zA s.heap.size) s s.heap := by
    obtain ⟨cell, q1, q2, q3, q4, q5, q6, q7⟩ := (hS.1 0 (by decide)).2.2.2
    exact ⟨cell, q1, q2, q3, q4, q5, fun j hj => (q6 j hj).trans (congrArg (fun w => some (Value.int w)) (zq_byte 0 (by decide) j hj)), q7⟩
  have hT5 : va_T .byte (adV 1) 60 (fun i => .int (Int32.ofInt ((zgv_L.getD 5 []).getD i 0))) (zA s.heap.size) s s.heap := by
    obtain ⟨cell, q1, q2, q3, q4, q5, q6, q7⟩ := (hS.1 1 (by decide)).2.2.2
    exact ⟨cell, q1, q2, q3, q4, q5, fun j hj => (q6 j hj).trans (congrArg (fun w => some (Value.int w)) (zq_byte 1 (by decide) j hj)), q7⟩
  have hT6 : va_T .int b L (fun i => .int (Int32.ofInt ((xs i).toInt))) (zA s.heap.size) s s.heap := by
    obtain ⟨scr, q1, q2, q3, q4, q5⟩ := hX
    exact ⟨scr, q1, q2, q3, by omega, by rw [q4], fun j hj => by rw [q5 j hj]; show _ = some (Value.int (Int32.ofInt (xs j).toInt)); rw [Int32.ofInt_toInt], hA b hbl⟩
  refine ⟨fun j => if j = 0 then .ref t0 else if j = 1 then .ref t1 else if j = 2 then .ref (adK 0) else if j = 3 then .ref (adK 1) else if j = 4 then .ref (adV 0) else if j = 5 then .ref (adV 1) else if j = 6 then .ref b else if j = 7 then vq else .null, rfl, ?_, fun j => if j = 0 then t0 else if j = 1 then t1 else if j = 2 then adK 0 else if j = 3 then adK 1 else if j = 4 then adV 0 else if j = 5 then adV 1 else b, ?_, by omega, fun j => zR_t _, ?_, ?_, ?_, va_Zref (hts _ w1) (hts _ i1) e0 hA, va_Zref (hts _ w2) (hts _ i2) e1 hA, va_Zof (hts _ w3) (hts _ i3) (va_eqi (hs _ m5)) hA, hZq, vk_R.of (hts _ w5) ?_, vk_R.of (hts _ w6) ?_, fun e he => ?_, ?_, ?_⟩
  · intro j
    rcases Nat.lt_or_ge j 8 with h | h
    · match j, h with
      | 0, _ => exact Or.inr ⟨_, rfl⟩
      | 1, _ => exact Or.inr ⟨_, rfl⟩
      | 2, _ => exact Or.inr ⟨_, rfl⟩
      | 3, _ => exact Or.inr ⟨_, rfl⟩
      | 4, _ => exact Or.inr ⟨_, rfl⟩
      | 5, _ => exact Or.inr ⟨_, rfl⟩
      | 6, _ => exact Or.inr ⟨_, rfl⟩
      | 7, _ => exact hvq
    · left
      simp only [show ¬ j = 0 by omega, show ¬ j = 1 by omega, show ¬ j = 2 by omega, show ¬ j = 3 by omega, show ¬ j = 4 by omega, show ¬ j = 5 by omega, show ¬ j = 6 by omega, show ¬ j = 7 by omega, if_false]
  · intro j hj
    match j, hj with
    | 0, _ => rfl
    | 1, _ => rfl
    | 2, _ => rfl
    | 3, _ => rfl
    | 4, _ => rfl
    | 5, _ => rfl
    | 6, _ => rfl
  · intro j hj
    rcases hj with rfl | rfl | rfl
    · exact T0
    · exact T1
    · exact hT6
  · intro j hj
    rcases hj with rfl | rfl
    · exact hT4
    · exact hT5
  · intro j hj
    rcases hj with rfl | rfl
    · exact ⟨(hS.1 0 (by decide)).1, (hS.1 0 (by decide)).2.1, (hS.1 0 (by decide)).2.2.1⟩
    · exact ⟨(hS.1 1 (by decide)).1, (hS.1 1 (by decide)).2.1, (hS.1 1 (by decide)).2.2.1⟩
  · exact hE 0 (by decide)
  · exact hE 1 (by decide)
  · exact va_tabs rfl rfl (hts _ (zw_nl_lw he))
  · exact va_AO.of (hts _ (zw_ao_lw (e := "OneForOne$Law") (by decide +kernel)))
  · exact va_AO.of (hts _ (zw_ao_lw (e := "OneForOne$Sheet") (by decide +kernel)))

theorem zcAv : ∀ {s : State} {args : Array Value}, (∀ w ∈ lw_tbl, w.before args s = true) → ∃ cA : Nat → ClassId, ∀ (k : Nat) (q : ClassId × FieldType), (zTY cA)[k]? = some q → ArrOfT s q.1 q.2 ∧ va_RA s q.1 q.2 := by
  intro s args hts
  have prim : ∀ ty : FieldType, (Cond.arrayClass ty).before args s = true → ∃ cB : ClassId, ArrOfT s cB ty ∧ s.vm.findClass ("[" ++ ty.toString) = some cB := by
    intro ty h
    obtain ⟨cB, kB, comp, h1, h2, h3⟩ := Cond.arrayClass_spec h
    exact ⟨cB, fun n z => ⟨fun k h => (by cases h), kB, h2, comp, h3⟩, h1⟩
  have obj : ∀ C : String, (Cond.arrayOver (.object C)).before args s = true → ∃ cB : ClassId, ArrOfT s cB (.object C) ∧ va_RA s cB (.object C) := by
    intro C h
    obtain ⟨comp, cB, kB, h1, h2, h3, h4, h5⟩ := Cond.arrayOver_spec h
    exact ⟨cB, fun n z => ⟨fun k h => (by cases h), kB, h3, comp, h4⟩, kB, comp, h3, h4, h1, h5⟩
  obtain ⟨c0, a0, b0⟩ := prim .int (hts _ (zgw_lw (zw_mi_ok zmi_in.1)))
  obtain ⟨c1, a1, b1⟩ := prim .byte (hts _ (zgw_lw (zw_mi_ok zmi_in.2.1)))
  obtain ⟨c2, a2, b2⟩ := prim .boolean (hts _ (zgw_lw (zw_mi_ok zmi_in.2.2.1)))
  obtain ⟨c3, a3, b3⟩ := obj "OneForOne$Law" (hts _ (zw_ao_lw (e := "OneForOne$Law") (by decide +kernel)))
  obtain ⟨c4, a4, b4⟩ := obj "OneForOne$Sheet" (hts _ (zw_ao_lw (e := "OneForOne$Sheet") (by decide +kernel)))
  refine ⟨fun k => if k = 20 then c0 else if k = 21 then c1 else if k = 22 then c2 else if k = 23 then c3 else c4, ?_⟩
  intro k q h
  match k, h with
  | 0, h => cases h; exact ⟨a0, b0⟩
  | 1, h => cases h; exact ⟨a1, b1⟩
  | 2, h => cases h; exact ⟨a2, b2⟩
  | 3, h => cases h; exact ⟨a3, b3⟩
  | 4, h => cases h; exact ⟨a4, b4⟩
  | k + 5, h => simp [zTY] at h
theorem zcKv {s : State} {args : Array Value} (hts : ∀ w ∈ lw_tbl, w.before args s = true) : ∃ (dC : Nat → ClassId) (dI : Nat → Nat → Nat), ∀ (k : Nat) (q : vw_C), classes[k]? = some q → u_Kn s q.1 q.2.1 q.2.2 (dC k) (dI k) := by
  have h0 : ∀ k : Nat, ∃ w : ClassId × (Nat → Nat), k < 9 → u_Kn s (zc_n k) (zf_T k) (zf_n k) w.1 w.2 := by
    intro k
    by_cases hk : k < 9
    · obtain ⟨cC, iS, h⟩ := u_known (C := zc_n k) (T := zf_T k) (N := zf_n k) (n := zf_n k) hts (fun w hw => zgw_lw (zcl_in hk w hw)) (hts _ (zgw_lw (zw_in_ok (zinn_in k hk))))
      exact ⟨(cC, iS), fun _ => h⟩
    · exact ⟨(0, fun _ => 0), fun h => absurd h hk⟩
  obtain ⟨f, hf⟩ := Classical.axiomOfChoice h0
  refine ⟨fun k => (f k).1, fun k => (f k).2, fun k q hq => ?_⟩
  have hk : k < 9 := by
    rcases Nat.lt_or_ge k 9 with h | h
    · exact h
    · rw [List.getElem?_eq_none (by simpa [classes] using h)] at hq
      cases hq
  rw [zcl_get k hk] at hq
  cases hq
  exact hf k hk
theorem zlaw_own : zc_n 15 = R_law := by decide
/-- what is left to show: the walker's run of the law ends, with 1 -/
def zPure (xs : Nat → Int) (L : Nat) : Prop := ∃ (N : Nat) (nF : Nat) (sqF : Pl), nF ≤ 1000 ∧ zrun xs L (zex xs L N 100) 247 15 2 false N (0, [some (.inr (.inr 100006)), none, none, none], [], 0, fun _ _ => 0) = some (some (.inl 1), nF, sqF)
theorem zsz_le (n : Nat) : zsz n ≤ 4096 * n := by
  induction n with
  | zero => exact Nat.le_refl _
  | succ n ih =>
    rw [zsz_succ]
    have := zsh_len n
    omega
set_option maxHeartbeats 4000000 in
theorem zstart {p : Program} {e : Env} {s : State} {m : MethodId} {below : List Frame} {meth : Method} {c : Code} (l : Launch) {b L : Nat} {xs : Nat → Int32} (hL : L ≤ 3584) (C0 : lw_At p s m meth c b L xs) (hpure : zPure (fun j => (xs j).toInt) L) : W p l e room_1 s m #[Value.ref b] below meth c s.heap [] 0 0 (lw_Z below #[Value.ref b] s) (entryFrame m ([Value.ref b] : List Value).toArray 4) := by
  obtain ⟨hx, hb, hr, hml, hown, hts, hX, hbl, hlocks, hgv⟩ := C0
  obtain ⟨sp, hsp6, hXt⟩ := zXt_start hL hts hX hbl hgv
  obtain ⟨cA, hcA⟩ := zcAv hts
  obtain ⟨dC, dI, hdC⟩ := zcKv hts
  obtain ⟨N, nF, sqF, hnF, hrun⟩ := hpure
  have hK : va_K (dC, dI) classes (zTY cA) s := ⟨hdC, hcA⟩
  have C : zCtx p s m #[Value.ref b] meth c 247 15 false code 4 cA dC dI sp (fun j => (xs j).toInt) L s.heap.size :=
    ⟨hx, hb, hml, fun pc i z hi => zi_dec zi_okn_247 hi, by rw [zlaw_own]; exact hown, fun w hw => hts w (zgw_lw hw), hK, hXt, Nat.le_refl _, fun q => by cases q⟩
  have hl := lv_entry ([.ref b]) (n := 4) (Nat.le_of_ble_eq_true rfl)
  rw [lg_entry_eq]
  generalize (lg_sl ([.ref b]) ++ List.replicate (4 - (lg_sl ([.ref b])).length) Slot.unset).toArray = ls at hl ⊢
  have hl : lv_has ls 4 [(0, .ref b)] := hl
  have hr6 : ∀ ad : Nat → Nat, ztr sp ad (.inr (.inr 100006)) = .ref b := fun ad => (zrv_giv (j := 6) ad).trans hsp6
  have hlv : zLv sp (fun _ => 0) 0 4 [some (.inr (.inr 100006)), none, none, none] ls := by
    refine ⟨hl.1, rfl, hl.2.1, fun i v hv => ?_, fun i v hv => ?_⟩
    · match i, hv with
      | 0, hv => cases hv; rw [hr6]; exact hl.2.2 _ List.mem_cons_self
      | 1, hv => cases hv
      | 2, hv => cases hv
      | 3, hv => cases hv
      | i + 4, hv => simp at hv
    · match i, hv with
      | 0, hv => cases hv; exact Or.inr (by decide)
      | 1, hv => cases hv
      | 2, hv => cases hv
      | 3, hv => cases hv
      | i + 4, hv => simp at hv
  have hP : va_P (dC, dI) classes (zwo cA (fun _ => 0) 0 (fun _ _ => 0)) s.heap := fun k q h => by simp [zwo] at h
  have hD : va_D (zA s.heap.size) (zwo cA (fun _ => 0) 0 (fun _ _ => 0)) := ⟨fun i j p q h => by simp [zwo] at h, fun k q h => by simp [zwo] at h⟩
  have hz9 := zsz_le nF
  refine zrun_ok (d := 100) (n0 := 0) (nF := nF) (sqF := sqF) (rF := some (.inl 1)) (ad0 := fun _ => 0) (R := room_1) C (zmet_all l _ L N 100) (zex_mono 100) (Nat.le_of_ble_eq_true rfl) (Nat.le_of_ble_eq_true rfl) (Nat.le_trans (by omega : nF - 0 ≤ 1000) (Nat.le_of_ble_eq_true rfl)) (Nat.le_trans (by omega : zsz nF - zsz 0 ≤ 4096000) (Nat.le_of_ble_eq_true rfl)) ?_ N 0 _ [] 0 (fun _ _ => 0) ls s.heap [] (fun _ => 0) 0 0 hrun hlv (fun v hv => by cases hv) ⟨⟨fun _ _ => zR0, fun _ _ h => absurd h (Nat.not_lt_zero _), Nat.zero_le _⟩, hP, hD, va_S.rf⟩ rfl rfl (Nat.le_refl _) (fun _ _ => rfl)
  intro pc2 i2 z2 ls2 H2 locs2 ad2 st2 hi2 hrt2 hH2 hag hp2
  obtain ⟨hdg, hz⟩ := zi_dec zi_okn_247 hi2
  obtain ⟨hM2, hP2, hD2, hS2⟩ := hH2
  rcases zret_cases hrt2 with ⟨rfl, v, rfl, hv, hc⟩ | ⟨rfl, hc, v, rfl, hv⟩ | ⟨rfl, hc, cq, rfl, hv, hcq⟩ | ⟨rfl, hc, rfl, hv⟩
  · cases hv
    simp only [zsw, zln, Bool.false_eq_true, false_or] at hz
    subst hz
    refine va_forget (fun q hq => hS2.2.2 q hq) ?_
    refine W.widen (k := 600000) (n := 7302250) (Nat.le_trans (by omega : nF - 0 ≤ 1000) (Nat.le_of_ble_eq_true rfl)) (Nat.le_trans (by omega : zsz nF - zsz 0 ≤ 4096000) (Nat.le_of_ble_eq_true rfl)) ?_
    exact lw_ret hx hb hr hlocks hdg
  · cases hv
  · cases hv
  · cases hv
