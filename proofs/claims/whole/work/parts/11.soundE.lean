/-! the machine does what the walker does: writing cells, making cells -/
def zsz (n : Nat) : Nat := ((List.range n).map fun k => (zsh k).2).sum
theorem zsz_succ (n : Nat) : zsz (n + 1) = zsz n + (zsh n).2 := by
  unfold zsz
  rw [List.range_succ, List.map_append, List.sum_append]
  simp
theorem zmok_up {n : Nat} {sq : Pl} {kq : Nat} {iq vq : Int} (h : zmok n sq) (hv : zR vq) (hr : ∀ j : Nat, (j : Int) = iq → zrefs kq j = true → vq.toNat ≤ n) : zmok n (zup sq kq iq vq) := by
  obtain ⟨h1, h2, h3⟩ := h
  refine ⟨fun a j => ?_, fun a j ha hj => ?_, h3⟩
  · by_cases q : a = kq
    · subst q
      by_cases q2 : j = iq
      · subst q2; rw [zup_same]; exact hv
      · rw [zup_other q2]; exact h1 _ _
    · rw [zup_ne q]; exact h1 _ _
  · by_cases q : a = kq
    · subst q
      by_cases q2 : (j : Int) = iq
      · rw [← q2, zup_same]; exact hr j q2 hj
      · rw [zup_other q2]; exact h2 _ _ ha hj
    · rw [zup_ne q]; exact h2 _ _ ha hj
theorem zfs_len {ad : Nat → Nat} {sq : Pl} {kq : Nat} : (zfs ad sq kq).length = (zsh kq).2 := by
  unfold zfs
  rw [List.length_map, List.length_range]
theorem zfs_set {ad : Nat → Nat} {sq : Pl} {kq j : Nat} {vq : Int} {w : Value} (hw : w = if (zf (zsh kq).1 j).2.2.2 = 1 then va_rf (zrc ad vq.toNat) else .int (Int32.ofInt vq)) : (zfs ad sq kq).set j w = zfs ad (zup sq kq j vq) kq := by
  apply List.ext_getElem?
  intro a
  by_cases hn : a < (zsh kq).2
  · by_cases ha : a = j
    · subst ha
      rw [List.getElem?_set_self (by rw [zfs_len]; exact hn), zfs_get hn, zup_same, hw]
    · rw [List.getElem?_set_ne (Ne.symm ha), zfs_get hn, zfs_get hn, zup_other (by omega)]
  · rw [List.getElem?_eq_none (by rw [List.length_set, zfs_len]; omega), List.getElem?_eq_none (by rw [zfs_len]; omega)]
theorem zf_nm : ∀ ci, ci < 9 → ∀ a, a < zf_n ci → ∀ b, b < zf_n ci → a ≠ b → (zf_T ci a).2.1 ≠ (zf_T ci b).2.1 := by decide +kernel
theorem zf_tyok : ∀ ci, ci < 9 → ∀ k, k < zf_n ci → parseFieldDescriptor (zf_T ci k).2.2.1 = some (zf_ty ci k) := by decide +kernel
theorem zf_ty0 : ∀ ci, ci < 9 → ∀ k, k < zf_n ci → (zf ci k).2.2.2 = 0 → zf_ty ci k = .int := by decide +kernel
theorem zf_ty2 : ∀ ci, ci < 9 → ∀ k, k < zf_n ci → (zf ci k).2.2.2 = 2 → zf_ty ci k = .boolean := by decide +kernel
def zrefty : FieldType → Bool
  | .object _ => true
  | .array _ => true
  | _ => false
theorem zf_ty1 : ∀ ci, ci < 9 → ∀ k, k < zf_n ci → (zf ci k).2.2.2 = 1 → zrefty (zf_ty ci k) = true := by decide +kernel
theorem zf_def : ∀ ci, ci < 9 → ∀ k, k < zf_n ci → defaultValue (zf_ty ci k) = if (zf ci k).2.2.2 = 1 then .null else .int 0 := by decide +kernel
theorem zini_in : ∀ ci, ci < 9 → ci ∈ zw_ini := by decide +kernel
theorem zinn_in : ∀ ci, ci < 9 → ci ∈ zw_in := by decide +kernel
theorem zrefty_fits {ty : FieldType} (h : zrefty ty = true) (a : Nat) : fits ty (.ref a) = true ∧ narrow ty (.ref a) = .ref a := by
  cases ty <;> first | exact ⟨rfl, rfl⟩ | cases h
theorem zrv_new {sp : Nat → Value} {ad : Nat → Nat} {n q : Nat} {v : AV} (h : zok n v) (hn : n ≤ 1000) : ztr sp (fun k => if k = n then q else ad k) v = ztr sp ad v := by
  rcases v with x | x | c
  · rfl
  · rfl
  · have key : zrv sp (fun k => if k = n then q else ad k) c = zrv sp ad c := by
      unfold zrv
      rcases h with h | h
      · by_cases h0 : c = 0
        · rw [if_pos h0, if_pos h0]
        · rw [if_neg h0, if_neg h0, if_pos (by omega), if_pos (by omega)]
          show Value.ref (if c - 1 = n then q else ad (c - 1)) = _
          rw [if_neg (by omega)]
      · rw [if_neg (by omega), if_neg (by omega), if_neg (by omega), if_neg (by omega)]
    exact key
theorem zrc_new {ad : Nat → Nat} {n q c : Nat} (h : c ≤ n) : zrc (fun k => if k = n then q else ad k) c = zrc ad c := by
  unfold zrc
  by_cases h0 : c = 0
  · rw [if_pos h0, if_pos h0]
  · rw [if_neg h0, if_neg h0]
    show some (if c - 1 = n then q else ad (c - 1)) = _
    rw [if_neg (by omega)]
theorem zent_new {cA : Nat → ClassId} {ad : Nat → Nat} {sq : Pl} {n q k : Nat} (hm : zmok n sq) (hk : k < n) : zent cA (fun k => if k = n then q else ad k) sq k = zent cA ad sq k := by
  unfold zent
  by_cases h1 : (zsh k).1 < 20
  · rw [if_pos h1, if_pos h1]
    congr 2
    apply List.map_congr_left
    intro j _
    by_cases h2 : (zf (zsh k).1 j).2.2.2 = 1
    · rw [if_pos h2, if_pos h2, zrc_new (hm.2.1 k j hk (by unfold zrefs; simp only [Bool.or_eq_true, Bool.and_eq_true, decide_eq_true_eq]; exact Or.inl ⟨h1, h2⟩))]
    · rw [if_neg h2, if_neg h2]
  · rw [if_neg h1, if_neg h1]
    by_cases h2 : (zsh k).1 < 23
    · rw [if_pos h2, if_pos h2]
    · rw [if_neg h2, if_neg h2]
      have e0 : (fun j : Nat => zrc (fun k => if k = n then q else ad k) (sq k j).toNat) = fun j : Nat => zrc ad (sq k j).toNat := by
        funext j
        exact zrc_new (hm.2.1 k j hk (by unfold zrefs; simp only [Bool.or_eq_true, Bool.and_eq_true, decide_eq_true_eq]; exact Or.inr (by omega)))
      rw [e0]
theorem zwo_new {cA : Nat → ClassId} {ad : Nat → Nat} {sq : Pl} {n q : Nat} {x : va_E} (hm : zmok n sq) (hx : x = zent cA (fun k => if k = n then q else ad k) (znew sq n) n) : zwo cA ad n sq ++ [(q, x)] = zwo cA (fun k => if k = n then q else ad k) (n + 1) (znew sq n) := by
  have e0 : zwo cA (fun k => if k = n then q else ad k) (n + 1) (znew sq n) = (List.range n).map (fun k => ((fun k => if k = n then q else ad k) k, zent cA (fun k => if k = n then q else ad k) (znew sq n) k)) ++ [(q, zent cA (fun k => if k = n then q else ad k) (znew sq n) n)] := by
    unfold zwo
    rw [List.range_succ, List.map_append]
    simp
  rw [e0, hx]
  congr 1
  unfold zwo
  apply List.map_congr_left
  intro k hk
  have hk := List.mem_range.mp hk
  have h1 : znew sq n k = sq k := by unfold znew; rw [if_neg (by omega)]
  show (ad k, zent cA ad sq k) = (if k = n then q else ad k, _)
  rw [if_neg (by omega), zent_cong h1, zent_new hm hk]
theorem zmok_new {n : Nat} {sq : Pl} (h : zmok n sq) (hn : n < 1000) : zmok (n + 1) (znew sq n) := by
  obtain ⟨h1, h2, h3⟩ := h
  refine ⟨fun a j => ?_, fun a j ha hj => ?_, by omega⟩
  · unfold znew
    by_cases q : a = n
    · rw [if_pos q]; exact ⟨by decide, by decide⟩
    · rw [if_neg q]; exact h1 _ _
  · unfold znew
    by_cases q : a = n
    · rw [if_pos q]; exact Nat.zero_le _
    · rw [if_neg q]
      have := h2 a j (by omega) hj
      omega
theorem zLv.new {sp : Nat → Value} {ad : Nat → Nat} {n nL q : Nat} {lv : LVs} {ls : Array Slot} (h : zLv sp ad n nL lv ls) (hn : n ≤ 1000) : zLv sp (fun k => if k = n then q else ad k) (n + 1) nL lv ls := by
  obtain ⟨h1, h2, h3, h4, h5⟩ := h
  refine ⟨h1, h2, h3, fun i v hv => by rw [zrv_new (h5 i v hv) hn]; exact h4 i v hv, fun i v hv => ?_⟩
  have h6 := h5 i v hv
  rcases v with x | x | c
  · exact h6
  · exact h6
  · rcases h6 with h6 | h6
    · exact Or.inl (by omega)
    · exact Or.inr h6
theorem zPl.new {n : Nat} {st : List AV} (h : zPl n st) : zPl (n + 1) st := by
  intro v hv
  have h6 := h v hv
  rcases v with x | x | c
  · exact h6
  · exact h6
  · rcases h6 with h6 | h6
    · exact Or.inl (by omega)
    · exact Or.inr h6
theorem zPl.newmap {sp : Nat → Value} {ad : Nat → Nat} {n q : Nat} {st : List AV} (h : zPl n st) (hn : n ≤ 1000) : st.map (ztr sp (fun k => if k = n then q else ad k)) = st.map (ztr sp ad) := by
  apply List.map_congr_left
  intro v hv
  exact zrv_new (h v hv) hn
theorem zsh_bound {n : Nat} (h : (zsh n).1 < 99) : n < 1000 := by
  rcases Nat.lt_or_ge n zsh_L.length with q | q
  · have h1 : zsh_L.length ≤ 1000 := by decide +kernel
    omega
  · rw [zsh_out q] at h
    exact absurd h (by decide)
section ZSND
variable {p : Program} {l : Launch} {e : Env} {R : Room} {s : State} {m : MethodId} {args : Array Value} {below : List Frame} {meth : Method} {c : Code} {H : Heap} {locs : List Loc} {cells slots : Nat} {Q : State → Prop}
variable {y o : Nat} {ini : Bool} {b : ByteArray} {nL : Nat} {cA dC : Nat → ClassId} {dI : Nat → Nat → Nat} {sp : Nat → Value} {xs : Nat → Int} {L base : Nat} {ad : Nat → Nat}
/-- a field is written: final ones in the class's own constructor alone -/
theorem zput {idx pc ci kq cq n : Nat} {vq : Int} {sq : Pl} {ls : Array Slot} {rest : List Value} {w : Value}
    (C : zCtx p s m args meth c y o ini b nL cA dC dI sp xs L base) (hdg : decode b pc = .ok (.putfield idx, 3)) (hH : zHp s cA dC dI base ad n sq H locs) (hm : (o, idx, ci, kq) ∈ zw_fd) (h9 : ci < 9) (hk : kq < zf_n ci) (c1 : 1 ≤ cq) (c2 : cq ≤ n) (c3 : (zsh (cq - 1)).1 = ci) (hfin : (zf ci kq).2.2.1 = false ∨ (ini = true ∧ ci = o))
    (hnar : narrow (zf_ty ci kq) w = w) (hfit : fits (zf_ty ci kq) w = true) (hw : w = if (zf ci kq).2.2.2 = 1 then va_rf (zrc ad vq.toNat) else .int (Int32.ofInt vq)) (hv : zR vq) (hr : (zf ci kq).2.2.2 = 1 → vq.toNat ≤ n)
    (kk : ∀ (H1 : Heap) (locs1 : List Loc), zHp s cA dC dI base ad n (zup sq (cq - 1) kq vq) H1 locs1 → W p l e R s m args below meth c H1 locs1 cells slots Q (F0 m (pc + 3) ls rest)) : W p l e R s m args below meth c H locs cells slots Q (F0 m pc ls (w :: .ref (ad (cq - 1)) :: rest)) := by
  obtain ⟨hx, hb, hml, hd, hown, hts, hK, hXt, hbs, hin⟩ := C
  obtain ⟨hM, hP, hD, hS⟩ := hH
  have hsz : kq < (zsh (cq - 1)).2 := by rw [zsh_obj (by omega), c3]; exact hk
  have he : (zwo cA ad n sq)[cq - 1]? = some (ad (cq - 1), .inr (ci, zfs ad sq (cq - 1))) := by rw [zwo_get (by omega), zent_obj c3 h9]
  have hM2 : zmok n (zup sq (cq - 1) kq vq) := zmok_up hM hv (fun j hj hj2 => by
    have hj3 : j = kq := by omega
    subst hj3
    unfold zrefs at hj2
    rw [c3] at hj2
    simp only [Bool.or_eq_true, Bool.and_eq_true, decide_eq_true_eq] at hj2
    rcases hj2 with hj2 | hj2
    · exact hr hj2.2
    · omega)
  have hset : (zwo cA ad n sq).set (cq - 1) (ad (cq - 1), .inr (ci, (zfs ad sq (cq - 1)).set kq w)) = zwo cA ad n (zup sq (cq - 1) kq vq) := by
    refine zwo_set (by omega) ?_ (fun a ha => zup_ne ha)
    rw [zent_obj c3 h9, zfs_set (vq := vq) (by rw [c3]; exact hw)]
  have hfinish : ∀ (H1 : Heap) (locs1 : List Loc), va_P (dC, dI) classes ((zwo cA ad n sq).set (cq - 1) (ad (cq - 1), .inr (ci, (zfs ad sq (cq - 1)).set kq w))) H1 → va_D (zA base) ((zwo cA ad n sq).set (cq - 1) (ad (cq - 1), .inr (ci, (zfs ad sq (cq - 1)).set kq w))) → va_S (zA base) s.heap H1 locs1 → W p l e R s m args below meth c H1 locs1 cells slots Q (F0 m (pc + 3) ls rest) := by
    intro H1 locs1 a1 a2 a3
    rw [hset] at a1 a2
    exact kk H1 locs1 ⟨hM2, a1, a2, a3⟩
  cases hff : (zf ci kq).2.2.1 with
  | false =>
    exact va_put (D := (dC, dI)) (ci := ci) (v := w) (ty := zf_ty ci kq) (C := zc_n ci) (T := zf_T ci) (N := zf_n ci) hx hb hts (zcl_in h9) (zf_ty ci) (zf_tyok ci h9) (zf_nm ci h9) hown hK hP hD hS (cq - 1) he (zcl_get ci h9) kq hk (zfd_link hts hm) (fun _ h9 => h9) hff (zf_tyok ci h9 kq hk) hnar hfit (by rw [zfs_len]; exact hsz) hdg hfinish
  | true =>
    rcases hfin with q | ⟨q1, q2⟩
    · rw [hff] at q; cases q
    · exact va_putF (D := (dC, dI)) (ci := ci) (v := w) (ty := zf_ty ci kq) (C := zc_n ci) (T := zf_T ci) (N := zf_n ci) hx hb hts (zcl_in h9) (zf_ty ci) (zf_tyok ci h9) (zf_nm ci h9) hown hK hP hD hS (cq - 1) he (zcl_get ci h9) kq hk (zfd_link hts hm) (fun _ h9 => h9) hff (hin q1) (by show zc_n ci = zc_n o; rw [q2]) (zf_tyok ci h9 kq hk) hnar hfit (by rw [zfs_len]; exact hsz) hdg hfinish
end ZSND
