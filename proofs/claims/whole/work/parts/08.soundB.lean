/-! the machine does what the walker does: constants, names, the pile, arithmetic, branches, constants of the pool, statics. Written by wip/whole/gen/gen08.py -/
section ZSND
variable {p : Program} {l : Launch} {e : Env} {R : Room} {s : State} {m : MethodId} {args : Array Value} {below : List Frame} {meth : Method} {c : Code} {H : Heap} {locs : List Loc} {cells slots : Nat} {Q : State → Prop}
variable {y o : Nat} {ini : Bool} {b : ByteArray} {nL : Nat} {cA dC : Nat → ClassId} {dI : Nat → Nat → Nat} {sp : Nat → Value} {xs : Nat → Int} {L base : Nat} {ad : Nat → Nat}

theorem zrv_ref {n v : Nat} (hXt : zXt sp xs L (zA base) s s.heap) (h : 1 ≤ v ∧ v ≤ 100006) : ∃ a, zrv sp ad v = .ref a := by
  obtain ⟨-, t, h1, -⟩ := hXt
  unfold zrv
  rw [if_neg (by omega)]
  by_cases q : v < 100000
  · rw [if_pos q]
    exact ⟨_, rfl⟩
  · rw [if_neg q]
    exact ⟨_, h1 (v - 100000) (by omega)⟩
theorem zbr_some {pc : Nat} {d : Int} {q : Nat} (h : zbr pc d = some q) : (pc : Int) + d = (q : Int) := by
  unfold zbr at h
  split at h
  · cases h
    omega
  · cases h
theorem zR0 : zR 0 := ⟨by decide, by decide⟩
theorem zI0 : Int32.ofInt 0 = 0 := by decide
set_option maxHeartbeats 4000000 in
theorem zsA_ok {i : Instr} {z pc pc2 : Nat} {lv lv2 : LVs} {st st2 : List AV} {n n2 : Nat} {sq sq2 : Pl} {ls : Array Slot}
    (C : zCtx p s m args meth c y o ini b nL cA dC dI sp xs L base) (hi : zi y pc = some (i, z)) (h : zsA o ini i z (pc, lv, st, n, sq) = some (pc2, lv2, st2, n2, sq2)) (hl : zLv sp ad n nL lv ls) (hp : zPl n st)
    (kk : n2 = n → sq2 = sq → ∀ ls2, zLv sp ad n nL lv2 ls2 → zPl n st2 → W p l e R s m args below meth c H locs cells slots Q (F0 m pc2 ls2 (st2.map (ztr sp ad)))) : W p l e R s m args below meth c H locs cells slots Q (F0 m pc ls (st.map (ztr sp ad))) := by
  obtain ⟨hx, hb, hml, hd, hown, hts, hK, hXt, hbs, hin⟩ := C
  obtain ⟨hdg, hz⟩ := hd _ _ _ hi
  have hsp := hXt.1
  cases i with
  | iconst v =>
    simp only [zsw, zln, Bool.false_eq_true, false_or] at hz
    subst hz
    simp only [zsA] at h
    split at h
    · next hc =>
      cases h
      refine lv_iconst (v := Int32.ofInt v) hx hb hdg rfl ?_
      exact kk rfl rfl ls hl (zPl.cons.mpr ⟨⟨by omega, by omega⟩, hp⟩)
    · cases h
  | bipush v =>
    simp only [zsw, zln, Bool.false_eq_true, false_or] at hz
    subst hz
    simp only [zsA] at h
    split at h
    · next hc =>
      have hE : (Int8.ofInt v).toInt32 = Int32.ofInt v := by
        apply Int32.toInt.inj
        rw [zR_toInt ⟨by omega, by omega⟩, Int8.toInt_toInt32, Int8.toInt_ofInt_of_le (by omega) (by omega)]
      cases h
      refine lv_bipush (v := Int32.ofInt v) hx hb hdg hE ?_
      exact kk rfl rfl ls hl (zPl.cons.mpr ⟨⟨by omega, by omega⟩, hp⟩)
    · cases h
  | sipush v =>
    simp only [zsw, zln, Bool.false_eq_true, false_or] at hz
    subst hz
    simp only [zsA] at h
    split at h
    · next hc =>
      have hE : (Int16.ofInt v).toInt32 = Int32.ofInt v := by
        apply Int32.toInt.inj
        rw [zR_toInt ⟨by omega, by omega⟩, Int16.toInt_toInt32, Int16.toInt_ofInt_of_le (by omega) (by omega)]
      cases h
      refine lv_sipush (v := Int32.ofInt v) hx hb hdg hE ?_
      exact kk rfl rfl ls hl (zPl.cons.mpr ⟨⟨by omega, by omega⟩, hp⟩)
    · cases h
  | lconst v =>
    simp only [zsw, zln, Bool.false_eq_true, false_or] at hz
    subst hz
    simp only [zsA] at h
    cases h
    refine lv_lconst (v := Int64.ofInt ((v : Nat) : Int)) hx hb hdg (by rw [Int64.ofInt_eq_ofNat]) ?_
    exact kk rfl rfl ls hl (zPl.cons.mpr ⟨⟨by omega, by omega⟩, hp⟩)
  | iload_n k =>
    simp only [zsw, zln, Bool.false_eq_true, false_or] at hz
    subst hz
    simp only [zsA] at h
    split at h
    · next v ev =>
      have e2 := zld_some ev
      cases h
      refine lv_iload_n hx hb hdg rfl (hl.2.2.2.1 _ _ e2) ?_
      exact kk rfl rfl ls hl (zPl.cons.mpr ⟨hl.2.2.2.2 _ _ e2, hp⟩)
    · cases h
  | iload k =>
    simp only [zsw, zln, Bool.false_eq_true, false_or] at hz
    subst hz
    simp only [zsA] at h
    split at h
    · next v ev =>
      have e2 := zld_some ev
      cases h
      refine lv_iload hx hb hdg (hl.2.2.2.1 _ _ e2) ?_
      exact kk rfl rfl ls hl (zPl.cons.mpr ⟨hl.2.2.2.2 _ _ e2, hp⟩)
    · cases h
  | lload_n k =>
    simp only [zsw, zln, Bool.false_eq_true, false_or] at hz
    subst hz
    simp only [zsA] at h
    split at h
    · next v ev =>
      have e2 := zld_some ev
      cases h
      refine lv_lload_n hx hb hdg rfl (hl.2.2.2.1 _ _ e2) ?_
      exact kk rfl rfl ls hl (zPl.cons.mpr ⟨hl.2.2.2.2 _ _ e2, hp⟩)
    · cases h
  | lload k =>
    simp only [zsw, zln, Bool.false_eq_true, false_or] at hz
    subst hz
    simp only [zsA] at h
    split at h
    · next v ev =>
      have e2 := zld_some ev
      cases h
      refine lv_lload hx hb hdg (hl.2.2.2.1 _ _ e2) ?_
      exact kk rfl rfl ls hl (zPl.cons.mpr ⟨hl.2.2.2.2 _ _ e2, hp⟩)
    · cases h
  | aload_n k =>
    simp only [zsw, zln, Bool.false_eq_true, false_or] at hz
    subst hz
    simp only [zsA] at h
    split at h
    · next v ev =>
      have e2 := zld_some ev
      split at h
      · next hc =>
        cases h
        obtain ⟨a, ha⟩ := zrv_ref (n := n) (ad := ad) hXt hc
        have e3 := hl.2.2.2.1 _ _ e2
        refine lv_aload_n (x := a) hx hb hdg rfl (by rw [e3]; show some (Slot.val (zrv sp ad v)) = _; rw [ha]) ?_
        have k9 := kk rfl rfl ls hl (zPl.cons.mpr ⟨hl.2.2.2.2 _ _ e2, hp⟩)
        rw [List.map_cons, show ztr sp ad (.inr (.inr v)) = Value.ref a from ha] at k9
        exact k9
      · cases h
    · cases h
  | aload k =>
    simp only [zsw, zln, Bool.false_eq_true, false_or] at hz
    subst hz
    simp only [zsA] at h
    split at h
    · next v ev =>
      have e2 := zld_some ev
      split at h
      · next hc =>
        cases h
        obtain ⟨a, ha⟩ := zrv_ref (n := n) (ad := ad) hXt hc
        have e3 := hl.2.2.2.1 _ _ e2
        refine lv_aload (x := a) hx hb hdg (by rw [e3]; show some (Slot.val (zrv sp ad v)) = _; rw [ha]) ?_
        have k9 := kk rfl rfl ls hl (zPl.cons.mpr ⟨hl.2.2.2.2 _ _ e2, hp⟩)
        rw [List.map_cons, show ztr sp ad (.inr (.inr v)) = Value.ref a from ha] at k9
        exact k9
      · cases h
    · cases h
  | istore_n k =>
    simp only [zsw, zln, Bool.false_eq_true, false_or] at hz
    subst hz
    rcases st with _ | ⟨v | v | v, st⟩ <;> simp only [zsA, reduceCtorEq] at h
    split at h
    · next hc =>
      cases h
      obtain ⟨h1, h2⟩ := zPl.cons.mp hp
      refine lv_istore_n hx hb hdg rfl hl.has (by rw [← hl.2.1]; exact hc) rfl (fun ls2 g2 => ?_)
      exact kk rfl rfl ls2 (hl.st1 hsp h1 g2) h2
    · cases h
  | istore k =>
    simp only [zsw, zln, Bool.false_eq_true, false_or] at hz
    subst hz
    rcases st with _ | ⟨v | v | v, st⟩ <;> simp only [zsA, reduceCtorEq] at h
    split at h
    · next hc =>
      cases h
      obtain ⟨h1, h2⟩ := zPl.cons.mp hp
      refine lv_istore hx hb hdg hl.has (by rw [← hl.2.1]; exact hc) rfl (fun ls2 g2 => ?_)
      exact kk rfl rfl ls2 (hl.st1 hsp h1 g2) h2
    · cases h
  | astore_n k =>
    simp only [zsw, zln, Bool.false_eq_true, false_or] at hz
    subst hz
    rcases st with _ | ⟨v | v | v, st⟩ <;> simp only [zsA, reduceCtorEq] at h
    split at h
    · next hc =>
      cases h
      obtain ⟨h1, h2⟩ := zPl.cons.mp hp
      obtain ⟨a, ha⟩ := zrv_ref (n := n) (ad := ad) hXt hc.2
      rw [List.map_cons, show ztr sp ad (.inr (.inr v)) = Value.ref a from ha]
      refine lv_astore_n hx hb hdg rfl hl.has (by rw [← hl.2.1]; exact hc.1) rfl (fun ls2 g2 => ?_)
      rw [← ha] at g2
      exact kk rfl rfl ls2 (hl.st1 hsp (w := .inr (.inr v)) h1 g2) h2
    · cases h
  | astore k =>
    simp only [zsw, zln, Bool.false_eq_true, false_or] at hz
    subst hz
    rcases st with _ | ⟨v | v | v, st⟩ <;> simp only [zsA, reduceCtorEq] at h
    split at h
    · next hc =>
      cases h
      obtain ⟨h1, h2⟩ := zPl.cons.mp hp
      obtain ⟨a, ha⟩ := zrv_ref (n := n) (ad := ad) hXt hc.2
      rw [List.map_cons, show ztr sp ad (.inr (.inr v)) = Value.ref a from ha]
      refine lv_astore hx hb hdg hl.has (by rw [← hl.2.1]; exact hc.1) rfl (fun ls2 g2 => ?_)
      rw [← ha] at g2
      exact kk rfl rfl ls2 (hl.st1 hsp (w := .inr (.inr v)) h1 g2) h2
    · cases h
  | lstore_n k =>
    simp only [zsw, zln, Bool.false_eq_true, false_or] at hz
    subst hz
    rcases st with _ | ⟨v | v | v, st⟩ <;> simp only [zsA, reduceCtorEq] at h
    split at h
    · next hc =>
      cases h
      obtain ⟨h1, h2⟩ := zPl.cons.mp hp
      refine lv_lstore_n hx hb hdg rfl hl.has (by rw [← hl.2.1]; exact hc) rfl (fun ls2 g2 => ?_)
      exact kk rfl rfl ls2 (hl.st2 hsp h1 g2) h2
    · cases h
  | lstore k =>
    simp only [zsw, zln, Bool.false_eq_true, false_or] at hz
    subst hz
    rcases st with _ | ⟨v | v | v, st⟩ <;> simp only [zsA, reduceCtorEq] at h
    split at h
    · next hc =>
      cases h
      obtain ⟨h1, h2⟩ := zPl.cons.mp hp
      refine lv_lstore hx hb hdg hl.has (by rw [← hl.2.1]; exact hc) rfl (fun ls2 g2 => ?_)
      exact kk rfl rfl ls2 (hl.st2 hsp h1 g2) h2
    · cases h
  | iinc k d =>
    simp only [zsw, zln, Bool.false_eq_true, false_or] at hz
    subst hz
    simp only [zsA] at h
    split at h
    · next hc =>
      split at h
      · next v ev =>
        have e2 := zld_some ev
        cases h
        obtain ⟨q, hq⟩ := List.getElem?_of_mem (zls_mem (sp := sp) (ad := ad) (q := (k, ztr sp ad (.inl v))) |>.mpr ⟨_, e2, rfl⟩)
        refine lv_iinc (v := Int32.ofInt (zw (v + d))) hx hb hdg hl.has hq (by rw [zw_of, Int32.ofInt_add]) (by rw [← hl.2.1]; exact hc) rfl (fun ls2 g2 => ?_)
        exact kk rfl rfl ls2 (hl.st1 hsp (w := .inl (zw (v + d))) (zw_R _) g2) hp
      · cases h
    · cases h
  | dup =>
    simp only [zsw, zln, Bool.false_eq_true, false_or] at hz
    subst hz
    rcases st with _ | ⟨v, st⟩ <;> simp only [zsA, reduceCtorEq] at h
    split at h
    · next hc =>
      cases h
      obtain ⟨h1, h2⟩ := zPl.cons.mp hp
      refine lv_dup hx hb hdg (by rw [ztr_cat sp ad hsp]; exact hc) ?_
      exact kk rfl rfl ls hl (zPl.cons.mpr ⟨h1, hp⟩)
    · cases h
  | dup2 =>
    simp only [zsw, zln, Bool.false_eq_true, false_or] at hz
    subst hz
    rcases st with _ | ⟨v, _ | ⟨w, st⟩⟩ <;> simp only [zsA, reduceCtorEq] at h
    split at h
    · next hc =>
      cases h
      obtain ⟨h1, h2⟩ := zPl.cons.mp hp
      obtain ⟨h3, h4⟩ := zPl.cons.mp h2
      refine lv_dup2_11 hx hb hdg (by rw [ztr_cat sp ad hsp]; exact hc.1) (by rw [ztr_cat sp ad hsp]; exact hc.2) ?_
      exact kk rfl rfl ls hl (zPl.cons.mpr ⟨h1, zPl.cons.mpr ⟨h3, hp⟩⟩)
    · cases h
  | pop =>
    simp only [zsw, zln, Bool.false_eq_true, false_or] at hz
    subst hz
    rcases st with _ | ⟨v, st⟩ <;> simp only [zsA, reduceCtorEq] at h
    split at h
    · next hc =>
      cases h
      obtain ⟨h1, h2⟩ := zPl.cons.mp hp
      refine lv_pop hx hb hdg (by rw [ztr_cat sp ad hsp]; exact hc) ?_
      exact kk rfl rfl ls hl h2
    · cases h
  | _ => simp [zsA] at h
set_option maxHeartbeats 4000000 in
theorem zsB_ok {i : Instr} {z pc pc2 : Nat} {lv lv2 : LVs} {st st2 : List AV} {n n2 : Nat} {sq sq2 : Pl} {ls : Array Slot}
    (C : zCtx p s m args meth c y o ini b nL cA dC dI sp xs L base) (hi : zi y pc = some (i, z)) (h : zsB o ini i z (pc, lv, st, n, sq) = some (pc2, lv2, st2, n2, sq2)) (hl : zLv sp ad n nL lv ls) (hp : zPl n st)
    (kk : n2 = n → sq2 = sq → ∀ ls2, zLv sp ad n nL lv2 ls2 → zPl n st2 → W p l e R s m args below meth c H locs cells slots Q (F0 m pc2 ls2 (st2.map (ztr sp ad)))) : W p l e R s m args below meth c H locs cells slots Q (F0 m pc ls (st.map (ztr sp ad))) := by
  obtain ⟨hx, hb, hml, hd, hown, hts, hK, hXt, hbs, hin⟩ := C
  obtain ⟨hdg, hz⟩ := hd _ _ _ hi
  have hsp := hXt.1
  cases i with
  | iadd =>
    simp only [zsw, zln, Bool.false_eq_true, false_or] at hz
    subst hz
    rcases st with _ | ⟨y | y | y, _ | ⟨x | x | x, st⟩⟩ <;> simp only [zsB, reduceCtorEq] at h
    cases h
    obtain ⟨hy, h2⟩ := zPl.cons.mp hp
    obtain ⟨hxx, h2⟩ := zPl.cons.mp h2
    refine lv_iadd hx hb hdg ?_
    rw [show Int32.ofInt x + Int32.ofInt y = Int32.ofInt (zw (x + y)) from by rw [zw_of, Int32.ofInt_add]]
    exact kk rfl rfl ls hl (zPl.cons.mpr ⟨zw_R _, h2⟩)
  | isub =>
    simp only [zsw, zln, Bool.false_eq_true, false_or] at hz
    subst hz
    rcases st with _ | ⟨y | y | y, _ | ⟨x | x | x, st⟩⟩ <;> simp only [zsB, reduceCtorEq] at h
    cases h
    obtain ⟨hy, h2⟩ := zPl.cons.mp hp
    obtain ⟨hxx, h2⟩ := zPl.cons.mp h2
    refine lv_isub hx hb hdg ?_
    rw [show Int32.ofInt x - Int32.ofInt y = Int32.ofInt (zw (x - y)) from by rw [zw_of, Int32.ofInt_sub]]
    exact kk rfl rfl ls hl (zPl.cons.mpr ⟨zw_R _, h2⟩)
  | imul =>
    simp only [zsw, zln, Bool.false_eq_true, false_or] at hz
    subst hz
    rcases st with _ | ⟨y | y | y, _ | ⟨x | x | x, st⟩⟩ <;> simp only [zsB, reduceCtorEq] at h
    cases h
    obtain ⟨hy, h2⟩ := zPl.cons.mp hp
    obtain ⟨hxx, h2⟩ := zPl.cons.mp h2
    refine lv_imul hx hb hdg ?_
    rw [show Int32.ofInt x * Int32.ofInt y = Int32.ofInt (zw (x * y)) from by rw [zw_of, Int32.ofInt_mul]]
    exact kk rfl rfl ls hl (zPl.cons.mpr ⟨zw_R _, h2⟩)
  | idiv =>
    simp only [zsw, zln, Bool.false_eq_true, false_or] at hz
    subst hz
    rcases st with _ | ⟨y | y | y, _ | ⟨x | x | x, st⟩⟩ <;> simp only [zsB, reduceCtorEq] at h
    split at h
    · cases h
    · next hc =>
      cases h
      obtain ⟨hy, h2⟩ := zPl.cons.mp hp
      obtain ⟨hxx, h2⟩ := zPl.cons.mp h2
      refine lv_idiv hx hb hdg (fun q => hc ((zR_eq hy zR0).mp (by rw [zI0]; exact q))) ?_
      rw [show Int32.ofInt x / Int32.ofInt y = Int32.ofInt (zdiv x y) from (zt_of _).symm]
      exact kk rfl rfl ls hl (zPl.cons.mpr ⟨zR_t _, h2⟩)
  | irem =>
    simp only [zsw, zln, Bool.false_eq_true, false_or] at hz
    subst hz
    rcases st with _ | ⟨y | y | y, _ | ⟨x | x | x, st⟩⟩ <;> simp only [zsB, reduceCtorEq] at h
    split at h
    · cases h
    · next hc =>
      cases h
      obtain ⟨hy, h2⟩ := zPl.cons.mp hp
      obtain ⟨hxx, h2⟩ := zPl.cons.mp h2
      refine lv_irem hx hb hdg (fun q => hc ((zR_eq hy zR0).mp (by rw [zI0]; exact q))) ?_
      rw [show Int32.ofInt x - Int32.ofInt x / Int32.ofInt y * Int32.ofInt y = Int32.ofInt (zrem x y) from (zt_of _).symm]
      exact kk rfl rfl ls hl (zPl.cons.mpr ⟨zR_t _, h2⟩)
  | ineg =>
    simp only [zsw, zln, Bool.false_eq_true, false_or] at hz
    subst hz
    rcases st with _ | ⟨x | x | x, st⟩ <;> simp only [zsB, reduceCtorEq] at h
    cases h
    obtain ⟨hxx, h2⟩ := zPl.cons.mp hp
    refine lv_ineg hx hb hdg ?_
    rw [show -Int32.ofInt x = Int32.ofInt (zw (-x)) from by rw [zw_of, Int32.ofInt_neg]]
    exact kk rfl rfl ls hl (zPl.cons.mpr ⟨zw_R _, h2⟩)
  | ishl =>
    simp only [zsw, zln, Bool.false_eq_true, false_or] at hz
    subst hz
    rcases st with _ | ⟨y | y | y, _ | ⟨x | x | x, st⟩⟩ <;> simp only [zsB, reduceCtorEq] at h
    cases h
    obtain ⟨hy, h2⟩ := zPl.cons.mp hp
    obtain ⟨hxx, h2⟩ := zPl.cons.mp h2
    refine lv_ishl hx hb hdg ?_
    rw [show Int32.ofInt x <<< (Int32.ofInt y &&& 31) = Int32.ofInt (zshl x y) from (zt_of _).symm]
    exact kk rfl rfl ls hl (zPl.cons.mpr ⟨zR_t _, h2⟩)
  | ishr =>
    simp only [zsw, zln, Bool.false_eq_true, false_or] at hz
    subst hz
    rcases st with _ | ⟨y | y | y, _ | ⟨x | x | x, st⟩⟩ <;> simp only [zsB, reduceCtorEq] at h
    cases h
    obtain ⟨hy, h2⟩ := zPl.cons.mp hp
    obtain ⟨hxx, h2⟩ := zPl.cons.mp h2
    refine lv_ishr hx hb hdg ?_
    rw [show Int32.ofInt x >>> (Int32.ofInt y &&& 31) = Int32.ofInt (zshr x y) from (zt_of _).symm]
    exact kk rfl rfl ls hl (zPl.cons.mpr ⟨zR_t _, h2⟩)
  | iand =>
    simp only [zsw, zln, Bool.false_eq_true, false_or] at hz
    subst hz
    rcases st with _ | ⟨y | y | y, _ | ⟨x | x | x, st⟩⟩ <;> simp only [zsB, reduceCtorEq] at h
    cases h
    obtain ⟨hy, h2⟩ := zPl.cons.mp hp
    obtain ⟨hxx, h2⟩ := zPl.cons.mp h2
    refine lv_iand hx hb hdg ?_
    rw [show Int32.ofInt x &&& Int32.ofInt y = Int32.ofInt (zand x y) from (zt_of _).symm]
    exact kk rfl rfl ls hl (zPl.cons.mpr ⟨zR_t _, h2⟩)
  | ior =>
    simp only [zsw, zln, Bool.false_eq_true, false_or] at hz
    subst hz
    rcases st with _ | ⟨y | y | y, _ | ⟨x | x | x, st⟩⟩ <;> simp only [zsB, reduceCtorEq] at h
    cases h
    obtain ⟨hy, h2⟩ := zPl.cons.mp hp
    obtain ⟨hxx, h2⟩ := zPl.cons.mp h2
    refine lv_ior hx hb hdg ?_
    rw [show Int32.ofInt x ||| Int32.ofInt y = Int32.ofInt (zor x y) from (zt_of _).symm]
    exact kk rfl rfl ls hl (zPl.cons.mpr ⟨zR_t _, h2⟩)
  | ixor =>
    simp only [zsw, zln, Bool.false_eq_true, false_or] at hz
    subst hz
    rcases st with _ | ⟨y | y | y, _ | ⟨x | x | x, st⟩⟩ <;> simp only [zsB, reduceCtorEq] at h
    cases h
    obtain ⟨hy, h2⟩ := zPl.cons.mp hp
    obtain ⟨hxx, h2⟩ := zPl.cons.mp h2
    refine lv_ixor hx hb hdg ?_
    rw [show Int32.ofInt x ^^^ Int32.ofInt y = Int32.ofInt (zxor x y) from (zt_of _).symm]
    exact kk rfl rfl ls hl (zPl.cons.mpr ⟨zR_t _, h2⟩)
  | iushr =>
    simp only [zsw, zln, Bool.false_eq_true, false_or] at hz
    subst hz
    rcases st with _ | ⟨y | y | y, _ | ⟨x | x | x, st⟩⟩ <;> simp only [zsB, reduceCtorEq] at h
    cases h
    obtain ⟨hy, h2⟩ := zPl.cons.mp hp
    obtain ⟨hxx, h2⟩ := zPl.cons.mp h2
    refine lv_iushr (v := Int32.ofInt (zushr x y)) hx hb hdg (zt_of _).symm ?_
    exact kk rfl rfl ls hl (zPl.cons.mpr ⟨zR_t _, h2⟩)
  | i2b =>
    simp only [zsw, zln, Bool.false_eq_true, false_or] at hz
    subst hz
    rcases st with _ | ⟨x | x | x, st⟩ <;> simp only [zsB, reduceCtorEq] at h
    cases h
    obtain ⟨hxx, h2⟩ := zPl.cons.mp hp
    refine lv_i2b (v := Int32.ofInt (zb8 x)) hx hb hdg (zt_of _).symm ?_
    exact kk rfl rfl ls hl (zPl.cons.mpr ⟨zR_t _, h2⟩)
  | i2s =>
    simp only [zsw, zln, Bool.false_eq_true, false_or] at hz
    subst hz
    rcases st with _ | ⟨x | x | x, st⟩ <;> simp only [zsB, reduceCtorEq] at h
    cases h
    obtain ⟨hxx, h2⟩ := zPl.cons.mp hp
    refine lv_i2s (v := Int32.ofInt (zs16 x)) hx hb hdg (zt_of _).symm ?_
    exact kk rfl rfl ls hl (zPl.cons.mpr ⟨zR_t _, h2⟩)
  | i2c =>
    simp only [zsw, zln, Bool.false_eq_true, false_or] at hz
    subst hz
    rcases st with _ | ⟨x | x | x, st⟩ <;> simp only [zsB, reduceCtorEq] at h
    cases h
    obtain ⟨hxx, h2⟩ := zPl.cons.mp hp
    refine lv_i2c (v := Int32.ofInt (zc16 x)) hx hb hdg (zt_of _).symm ?_
    exact kk rfl rfl ls hl (zPl.cons.mpr ⟨zR_t _, h2⟩)
  | i2l =>
    simp only [zsw, zln, Bool.false_eq_true, false_or] at hz
    subst hz
    rcases st with _ | ⟨x | x | x, st⟩ <;> simp only [zsB, reduceCtorEq] at h
    cases h
    obtain ⟨hxx, h2⟩ := zPl.cons.mp hp
    have hxx : zR x := hxx
    refine lv_i2l (v := Int64.ofInt x) hx hb hdg (Int64.toInt.inj (by rw [Int32.toInt_toInt64, zR_toInt hxx, zRl_toInt ⟨by have := hxx.1; omega, by have := hxx.2; omega⟩])) ?_
    exact kk rfl rfl ls hl (zPl.cons.mpr ⟨⟨by have := hxx.1; omega, by have := hxx.2; omega⟩, h2⟩)
  | l2i =>
    simp only [zsw, zln, Bool.false_eq_true, false_or] at hz
    subst hz
    rcases st with _ | ⟨x | x | x, st⟩ <;> simp only [zsB, reduceCtorEq] at h
    cases h
    obtain ⟨hxx, h2⟩ := zPl.cons.mp hp
    refine lv_l2i (v := Int32.ofInt (zw x)) hx hb hdg (by rw [zw_of, Int64.toInt32_ofInt]) ?_
    exact kk rfl rfl ls hl (zPl.cons.mpr ⟨zw_R _, h2⟩)
  | ladd =>
    simp only [zsw, zln, Bool.false_eq_true, false_or] at hz
    subst hz
    rcases st with _ | ⟨y | y | y, _ | ⟨x | x | x, st⟩⟩ <;> simp only [zsB, reduceCtorEq] at h
    cases h
    obtain ⟨hy, h2⟩ := zPl.cons.mp hp
    obtain ⟨hxx, h2⟩ := zPl.cons.mp h2
    refine lv_ladd hx hb hdg ?_
    rw [show Int64.ofInt x + Int64.ofInt y = Int64.ofInt (zl (x + y)) from by rw [zl_of, Int64.ofInt_add]]
    exact kk rfl rfl ls hl (zPl.cons.mpr ⟨zl_R _, h2⟩)
  | lmul =>
    simp only [zsw, zln, Bool.false_eq_true, false_or] at hz
    subst hz
    rcases st with _ | ⟨y | y | y, _ | ⟨x | x | x, st⟩⟩ <;> simp only [zsB, reduceCtorEq] at h
    cases h
    obtain ⟨hy, h2⟩ := zPl.cons.mp hp
    obtain ⟨hxx, h2⟩ := zPl.cons.mp h2
    refine lv_lmul hx hb hdg ?_
    rw [show Int64.ofInt x * Int64.ofInt y = Int64.ofInt (zl (x * y)) from by rw [zl_of, Int64.ofInt_mul]]
    exact kk rfl rfl ls hl (zPl.cons.mpr ⟨zl_R _, h2⟩)
  | lrem =>
    simp only [zsw, zln, Bool.false_eq_true, false_or] at hz
    subst hz
    rcases st with _ | ⟨y | y | y, _ | ⟨x | x | x, st⟩⟩ <;> simp only [zsB, reduceCtorEq] at h
    split at h
    · cases h
    · next hc =>
      cases h
      obtain ⟨hy, h2⟩ := zPl.cons.mp hp
      obtain ⟨hxx, h2⟩ := zPl.cons.mp h2
      refine lv_lrem hx hb hdg (fun q => hc (by have q2 := congrArg Int64.toInt q; rw [zRl_toInt hy] at q2; exact q2)) ?_
      rw [show Int64.ofInt x - Int64.ofInt x / Int64.ofInt y * Int64.ofInt y = Int64.ofInt (zlrem x y) from (ztl_of _).symm]
      exact kk rfl rfl ls hl (zPl.cons.mpr ⟨zRl_t _, h2⟩)
  | lcmp =>
    simp only [zsw, zln, Bool.false_eq_true, false_or] at hz
    subst hz
    rcases st with _ | ⟨y | y | y, _ | ⟨x | x | x, st⟩⟩ <;> simp only [zsB, reduceCtorEq] at h
    cases h
    obtain ⟨hy, h2⟩ := zPl.cons.mp hp
    obtain ⟨hxx, h2⟩ := zPl.cons.mp h2
    refine W.lcmp hx hb hdg ?_
    rw [show lg_cmp (Int64.ofInt x) (Int64.ofInt y) = Int32.ofInt (zlcmp x y) from by
      have e1 : Int64.ofInt y < Int64.ofInt x ↔ y < x := by rw [Int64.lt_iff_toInt_lt, zRl_toInt hxx, zRl_toInt hy]
      have e2 : Int64.ofInt x = Int64.ofInt y ↔ x = y := by rw [← Int64.toInt_inj, zRl_toInt hxx, zRl_toInt hy]
      unfold lg_cmp zlcmp
      by_cases q : y < x
      · rw [if_pos (show Int64.ofInt x > Int64.ofInt y from e1.mpr q), if_pos q]; rfl
      · rw [if_neg (show ¬ Int64.ofInt x > Int64.ofInt y from fun z => q (e1.mp z)), if_neg q]
        by_cases q2 : x = y
        · rw [if_pos (e2.mpr q2), if_pos q2]; rfl
        · rw [if_neg (fun z => q2 (e2.mp z)), if_neg q2]; rfl]
    exact kk rfl rfl ls hl (zPl.cons.mpr ⟨by show zR (zlcmp x y); unfold zlcmp; split; exact ⟨by decide, by decide⟩; split; exact ⟨by decide, by decide⟩; exact ⟨by decide, by decide⟩, h2⟩)
  | _ => simp [zsB] at h
end ZSND
