/-! what the walker's values are in the machine -/
def zR (x : Int) : Prop := -2147483648 ≤ x ∧ x < 2147483648
def zRl (x : Int) : Prop := -9223372036854775808 ≤ x ∧ x < 9223372036854775808
theorem zR_toInt {x : Int} (h : zR x) : (Int32.ofInt x).toInt = x := by
  obtain ⟨h1, h2⟩ := h
  exact Int32.toInt_ofInt_of_le (by omega) (by omega)
theorem zRl_toInt {x : Int} (h : zRl x) : (Int64.ofInt x).toInt = x := by
  obtain ⟨h1, h2⟩ := h
  exact Int64.toInt_ofInt_of_le (by omega) (by omega)
theorem zR_t (v : Int32) : zR v.toInt := by
  have h1 := v.le_toInt
  have h2 := v.toInt_lt
  exact ⟨by omega, by omega⟩
theorem zRl_t (v : Int64) : zRl v.toInt := by
  have h1 := v.le_toInt
  have h2 := v.toInt_lt
  exact ⟨by omega, by omega⟩
theorem zR_eq {x y : Int} (hx : zR x) (hy : zR y) : Int32.ofInt x = Int32.ofInt y ↔ x = y := by
  rw [← Int32.toInt_inj, zR_toInt hx, zR_toInt hy]
theorem zR_lt {x y : Int} (hx : zR x) (hy : zR y) : Int32.ofInt x < Int32.ofInt y ↔ x < y := by
  rw [Int32.lt_iff_toInt_lt, zR_toInt hx, zR_toInt hy]
theorem zR_le {x y : Int} (hx : zR x) (hy : zR y) : Int32.ofInt x ≤ Int32.ofInt y ↔ x ≤ y := by
  rw [Int32.le_iff_toInt_le, zR_toInt hx, zR_toInt hy]
theorem zw_R (x : Int) : zR (zw x) := by
  have h1 := @Int.le_bmod x 4294967296 (by decide)
  have h2 := @Int.bmod_lt x 4294967296 (by decide)
  unfold zR zw
  omega
theorem zl_R (x : Int) : zRl (zl x) := by
  have h1 := @Int.le_bmod x 18446744073709551616 (by decide)
  have h2 := @Int.bmod_lt x 18446744073709551616 (by decide)
  unfold zRl zl
  omega
theorem zw_id {x : Int} (h1 : -2147483648 ≤ x) (h2 : x < 2147483648) : zw x = x := by
  unfold zw
  rw [Int.bmod_eq_of_le (by omega) (by omega)]
theorem zl_id {x : Int} (h1 : -9223372036854775808 ≤ x) (h2 : x < 9223372036854775808) : zl x = x := by
  unfold zl
  rw [Int.bmod_eq_of_le (by omega) (by omega)]
theorem zw_of (x : Int) : Int32.ofInt (zw x) = Int32.ofInt x := by
  apply Int32.toInt.inj
  rw [zR_toInt (zw_R x), Int32.toInt_ofInt]
  rfl
theorem zl_of (x : Int) : Int64.ofInt (zl x) = Int64.ofInt x := by
  apply Int64.toInt.inj
  rw [zRl_toInt (zl_R x), Int64.toInt_ofInt]
  rfl
theorem zt_of (v : Int32) : Int32.ofInt v.toInt = v := Int32.ofInt_toInt v
theorem ztl_of (v : Int64) : Int64.ofInt v.toInt = v := Int64.ofInt_toInt v
theorem zR_in {x : Int} {n : Nat} (hx : zR x) (h0 : 0 ≤ x) (h1 : x < (n : Int)) : vp_in (Int32.ofInt x) n := by
  rw [vp_in_iff, zR_toInt hx]
  exact ⟨h0, h1⟩
theorem zR_clamp {x : Int} (hx : zR x) : (Int32.ofInt x).toNatClampNeg = x.toNat := by
  show (Int32.ofInt x).toInt.toNat = _
  rw [zR_toInt hx]
theorem zR_ofNat (n : Nat) : Int32.ofInt (n : Int) = Int32.ofNat n := Int32.ofInt_eq_ofNat
/-- a reference: null, a cell of ours, a given one -/
def zrv (sp : Nat → Value) (ad : Nat → Nat) (c : Nat) : Value := if c = 0 then .null else if c < 100000 then .ref (ad (c - 1)) else sp (c - 100000)
def zrc (ad : Nat → Nat) (c : Nat) : Option Nat := if c = 0 then none else some (ad (c - 1))
def ztr (sp : Nat → Value) (ad : Nat → Nat) : AV → Value
  | .inl x => .int (Int32.ofInt x)
  | .inr (.inl x) => .long (Int64.ofInt x)
  | .inr (.inr c) => zrv sp ad c
def zok (n : Nat) : AV → Prop
  | .inl x => zR x
  | .inr (.inl x) => zRl x
  | .inr (.inr c) => c ≤ n ∨ 100000 ≤ c
/-- the plane's places that hold references -/
def zrefs (k i : Nat) : Bool := (decide ((zsh k).1 < 20) && decide ((zf (zsh k).1 i).2.2.2 = 1)) || decide (23 ≤ (zsh k).1)
def zmok (n : Nat) (s : Pl) : Prop := (∀ k i, zR (s k i)) ∧ (∀ k i : Nat, k < n → zrefs k i = true → (s k i).toNat ≤ n) ∧ n ≤ 1000
theorem zrc_rf {sp : Nat → Value} {ad : Nat → Nat} {c : Nat} (h : c < 100000) : va_rf (zrc ad c) = zrv sp ad c := by
  unfold zrc zrv
  by_cases h0 : c = 0
  · rw [if_pos h0, if_pos h0]; rfl
  · rw [if_neg h0, if_neg h0, if_pos h]; rfl
/-- a cell, and the world of n cells -/
def zent (cA : Nat → ClassId) (ad : Nat → Nat) (s : Pl) (k : Nat) : va_E :=
  if (zsh k).1 < 20 then .inr ((zsh k).1, (List.range (zsh k).2).map fun j => if (zf (zsh k).1 j).2.2.2 = 1 then va_rf (zrc ad (s k j).toNat) else .int (Int32.ofInt (s k j)))
  else if (zsh k).1 < 23 then .inl (cA (zsh k).1, ((zsh k).2, .inl fun j => Int32.ofInt (s k j)))
  else .inl (cA (zsh k).1, ((zsh k).2, .inr (.inr (.inr (.inr fun j => zrc ad (s k j).toNat)))))
def zwo (cA : Nat → ClassId) (ad : Nat → Nat) (n : Nat) (s : Pl) : va_W := (List.range n).map fun k => (ad k, zent cA ad s k)
def zTY (cA : Nat → ClassId) : List (ClassId × FieldType) := [(cA 20, .int), (cA 21, .byte), (cA 22, .boolean), (cA 23, .object "OneForOne$Law"), (cA 24, .object "OneForOne$Sheet")]
def zA (base : Nat) : Nat → Prop := fun q => base ≤ q
theorem zwo_get {cA : Nat → ClassId} {ad : Nat → Nat} {n : Nat} {s : Pl} {k : Nat} (h : k < n) : (zwo cA ad n s)[k]? = some (ad k, zent cA ad s k) := by
  unfold zwo
  rw [List.getElem?_map, List.getElem?_range h]
  rfl
theorem zwo_len {cA : Nat → ClassId} {ad : Nat → Nat} {n : Nat} {s : Pl} : (zwo cA ad n s).length = n := by
  unfold zwo
  rw [List.length_map, List.length_range]
theorem zent_cong {cA : Nat → ClassId} {ad : Nat → Nat} {s s2 : Pl} {k : Nat} (h : s k = s2 k) : zent cA ad s k = zent cA ad s2 k := by
  unfold zent
  rw [h]
theorem zwo_set {cA : Nat → ClassId} {ad : Nat → Nat} {n : Nat} {s s2 : Pl} {k : Nat} (hk : k < n) {x : va_E} (hx : x = zent cA ad s2 k) (ho : ∀ a, a ≠ k → s2 a = s a) : (zwo cA ad n s).set k (ad k, x) = zwo cA ad n s2 := by
  apply List.ext_getElem?
  intro a
  by_cases ha : a = k
  · subst ha
    rw [List.getElem?_set_self (by rw [zwo_len]; exact hk), zwo_get hk, hx]
  · rw [List.getElem?_set_ne (Ne.symm ha)]
    by_cases hn : a < n
    · rw [zwo_get hn, zwo_get hn, zent_cong (ho a ha)]
    · rw [List.getElem?_eq_none (by rw [zwo_len]; omega), List.getElem?_eq_none (by rw [zwo_len]; omega)]
theorem zup_ne {s : Pl} {k a : Nat} {i v : Int} (h : a ≠ k) : zup s k i v a = s a := by
  unfold zup
  rw [if_neg h]
theorem zup_at {s : Pl} {k : Nat} {i v : Int} : zup s k i v k = fun b => if b = i then v else s k b := by
  unfold zup
  rw [if_pos rfl]
theorem zup_same {s : Pl} {k : Nat} {i v : Int} : zup s k i v k i = v := by
  rw [zup_at]
  exact if_pos rfl
theorem zup_other {s : Pl} {k : Nat} {i v j : Int} (h : j ≠ i) : zup s k i v k j = s k j := by
  rw [zup_at]
  exact if_neg h
/-- the machine's length of an instruction -/
def zln : Instr → Nat
  | .bipush _ => 2
  | .iload _ => 2
  | .lload _ => 2
  | .aload _ => 2
  | .istore _ => 2
  | .astore _ => 2
  | .lstore _ => 2
  | .newarray _ => 2
  | .ldc _ => 2
  | .sipush _ => 3
  | .iinc _ _ => 3
  | .goto _ => 3
  | .ifCond _ _ => 3
  | .if_icmp _ _ => 3
  | .getfield _ => 3
  | .putfield _ => 3
  | .getstatic _ => 3
  | .invokespecial _ => 3
  | .invokestatic _ => 3
  | .invokevirtual _ => 3
  | .new _ => 3
  | .anewarray _ => 3
  | .ldc_w _ => 3
  | .ldc2_w _ => 3
  | _ => 1
def zsw : Instr → Bool
  | .tableswitch _ _ _ _ => true
  | .lookupswitch _ _ => true
  | _ => false
def zlen_ok (l : List (Nat × Instr × Nat)) : Bool := l.all fun e => zsw e.2.1 || decide (e.2.2 = zln e.2.1)
theorem zlen_all : zi_L.all zlen_ok = true := by decide +kernel
theorem zi_find_mem {pc : Nat} {i : Instr} {z : Nat} : ∀ {l : List (Nat × Instr × Nat)}, zi_find pc l = some (i, z) → (pc, i, z) ∈ l
  | [], h => by simp [zi_find] at h
  | (q, j, w) :: l, h => by
    unfold zi_find at h
    by_cases hq : q = pc
    · rw [if_pos hq] at h
      cases h
      rw [hq]
      exact List.mem_cons_self
    · rw [if_neg hq] at h
      exact List.mem_cons_of_mem _ (zi_find_mem h)
theorem zi_dec0 {b : ByteArray} {l : List (Nat × Instr × Nat)} {pc : Nat} {i : Instr} {z : Nat} (hy : zi_okL b l = true) (hn : zlen_ok l = true) (h : zi_find pc l = some (i, z)) : decode b pc = .ok (i, z) ∧ (zsw i = true ∨ z = zln i) := by
  have hm := zi_find_mem h
  have h3 := List.all_eq_true.mp hn _ hm
  simp only [Bool.or_eq_true, decide_eq_true_eq] at h3
  unfold zi_okL at hy
  rw [List.all_eq_true] at hy
  have h1 := hy (pc, i, z) hm
  generalize hw : decode b (pc, i, z).1 = w at h1
  have h2 := of_decide_eq_true h1
  exact ⟨h2, h3⟩
theorem zlen_get (l : List (List (Nat × Instr × Nat))) (h : l.all zlen_ok = true) (y : Nat) : zlen_ok (l.getD y []) = true := by
  rw [List.getD_eq_getElem?_getD]
  cases e : l[y]? with
  | none => rfl
  | some x => exact List.all_eq_true.mp h _ (List.mem_of_getElem? e)
theorem zi_dec {b : ByteArray} {y pc : Nat} {i : Instr} {z : Nat} (hy : zi_okL b (zi_L.getD y []) = true) (h : zi y pc = some (i, z)) : decode b pc = .ok (i, z) ∧ (zsw i = true ∨ z = zln i) := zi_dec0 hy (zlen_get zi_L zlen_all y) h
