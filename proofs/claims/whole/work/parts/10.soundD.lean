/-! the machine does what the walker does: reading cells -/
theorem zcl_get : ∀ ci, ci < 9 → classes[ci]? = some (zc_n ci, zf_T ci, zf_n ci) := by
  intro ci h
  match ci, h with
  | 0, _ => rfl
  | 1, _ => rfl
  | 2, _ => rfl
  | 3, _ => rfl
  | 4, _ => rfl
  | 5, _ => rfl
  | 6, _ => rfl
  | 7, _ => rfl
  | 8, _ => rfl
theorem zla_in : ∀ ci, ci < 9 → ∀ k, k < zf_n ci → (ci, k) ∈ zw_la := by decide +kernel
theorem zcl_in {ci : Nat} (h : ci < 9) : ∀ w ∈ u_ws (zc_n ci) (zf_T ci) (zf_n ci), w ∈ zgw := by
  intro w hw
  unfold u_ws at hw
  obtain ⟨k, hk, rfl⟩ := List.mem_map.mp hw
  exact zw_la_ok (e := (ci, k)) (zla_in ci h k (List.mem_range.mp hk))
theorem zfd_lt : ∀ e ∈ zw_fd, e.2.2.1 < 9 ∧ e.2.2.2 < zf_n e.2.2.1 := by decide +kernel
theorem zfd_some {oq idx ci k t : Nat} (h : zfd oq idx = some (ci, k, t)) : (oq, idx, ci, k) ∈ zw_fd ∧ ci < 9 ∧ k < zf_n ci ∧ t = (zf ci k).2.2.2 := by
  unfold zfd at h
  split at h
  · next e0 h0 =>
    have h1 := List.find?_some h0
    have h2 := List.mem_of_find?_eq_some h0
    simp only [Bool.and_eq_true, beq_iff_eq] at h1
    obtain ⟨a1, a2, a3, a4⟩ := e0
    dsimp only at h1 h
    cases h
    obtain ⟨g1, g2⟩ := zfd_lt _ h2
    rw [h1.1, h1.2] at h2
    exact ⟨h2, g1, g2, rfl⟩
  · cases h
theorem zsh_objL : ∀ a, a < zsh_L.length → (zsh a).1 < 9 → (zsh a).2 = zf_n (zsh a).1 := by decide +kernel
theorem zsh_out {a : Nat} (h : zsh_L.length ≤ a) : zsh a = (99, 0) := by
  unfold zsh
  rw [List.getD_eq_getElem?_getD, List.getElem?_eq_none h]
  rfl
theorem zsh_obj {a : Nat} (h : (zsh a).1 < 9) : (zsh a).2 = zf_n (zsh a).1 := by
  rcases Nat.lt_or_ge a zsh_L.length with q | q
  · exact zsh_objL a q h
  · rw [zsh_out q] at h
    exact absurd h (by decide)
theorem zsh_lenL : ∀ a, a < zsh_L.length → (zsh a).2 ≤ 4096 := by decide +kernel
theorem zsh_len (a : Nat) : (zsh a).2 ≤ 4096 := by
  rcases Nat.lt_or_ge a zsh_L.length with q | q
  · exact zsh_lenL a q
  · rw [zsh_out q]
    decide
def zfs (ad : Nat → Nat) (s : Pl) (k : Nat) : List Value := (List.range (zsh k).2).map fun j => if (zf (zsh k).1 j).2.2.2 = 1 then va_rf (zrc ad (s k j).toNat) else .int (Int32.ofInt (s k j))
theorem zent_obj {cA : Nat → ClassId} {ad : Nat → Nat} {s : Pl} {k ci : Nat} (h : (zsh k).1 = ci) (h9 : ci < 9) : zent cA ad s k = .inr (ci, zfs ad s k) := by
  unfold zent zfs
  rw [if_pos (by omega), h]
theorem zent_num {cA : Nat → ClassId} {ad : Nat → Nat} {s : Pl} {k ci : Nat} (h : (zsh k).1 = ci) (h1 : 20 ≤ ci) (h2 : ci < 23) : zent cA ad s k = .inl (cA ci, ((zsh k).2, .inl fun j => Int32.ofInt (s k j))) := by
  unfold zent
  rw [if_neg (by omega), if_pos (by omega), h]
theorem zent_ref {cA : Nat → ClassId} {ad : Nat → Nat} {s : Pl} {k ci : Nat} (h : (zsh k).1 = ci) (h1 : 23 ≤ ci) : zent cA ad s k = .inl (cA ci, ((zsh k).2, .inr (.inr (.inr (.inr fun j => zrc ad (s k j).toNat))))) := by
  unfold zent
  rw [if_neg (by omega), if_neg (by omega), h]
theorem zfs_get {ad : Nat → Nat} {s : Pl} {k j : Nat} (h : j < (zsh k).2) : (zfs ad s k)[j]? = some (if (zf (zsh k).1 j).2.2.2 = 1 then va_rf (zrc ad (s k j).toNat) else .int (Int32.ofInt (s k j))) := by
  unfold zfs
  rw [List.getElem?_map, List.getElem?_range h]
  rfl
theorem zrv_cell {sp : Nat → Value} {ad : Nat → Nat} {cq : Nat} (h1 : 1 ≤ cq) (h2 : cq < 100000) : zrv sp ad cq = .ref (ad (cq - 1)) := by
  unfold zrv
  rw [if_neg (by omega), if_pos h2]
theorem zgv_R : ∀ l ∈ zgv_L, ∀ v ∈ l, -1 ≤ v ∧ v ≤ 12500 := by decide +kernel
theorem zgiv_R {xs : Nat → Int} {L j : Nat} (h : ∀ j, zR (xs j)) (i : Int) : zR ((zgiv xs L j).2 i) := by
  unfold zgiv
  split
  · exact h _
  · show zR ((zgv_L.getD j []).getD i.toNat 0)
    have h1 : ∀ v ∈ zgv_L.getD j [], -1 ≤ v ∧ v ≤ 12500 := by
      rw [List.getD_eq_getElem?_getD]
      cases e0 : zgv_L[j]? with
      | none => intro v hv; cases hv
      | some l0 => exact zgv_R l0 (List.mem_of_getElem? e0)
    rw [List.getD_eq_getElem?_getD]
    cases e1 : (zgv_L.getD j [])[i.toNat]? with
    | none => exact ⟨by decide, by decide⟩
    | some v =>
      have h2 := h1 v (List.mem_of_getElem? e1)
      exact ⟨by show -2147483648 ≤ v; omega, by show v < 2147483648; omega⟩
theorem zgiv_len {xs : Nat → Int} {L j : Nat} (hL : L < 2147483648) : (zgiv xs L j).1 < 2147483648 := by
  unfold zgiv
  split
  · exact hL
  · show (zgv_L.getD j []).length < _
    have h1 : ∀ l ∈ zgv_L, l.length < 2147483648 := by decide +kernel
    rw [List.getD_eq_getElem?_getD]
    cases e0 : zgv_L[j]? with
    | none => decide
    | some l0 => exact h1 l0 (List.mem_of_getElem? e0)
section ZSND
variable {p : Program} {l : Launch} {e : Env} {R : Room} {s : State} {m : MethodId} {args : Array Value} {below : List Frame} {meth : Method} {c : Code} {H : Heap} {locs : List Loc} {cells slots : Nat} {Q : State → Prop}
variable {y o : Nat} {ini : Bool} {b : ByteArray} {nL : Nat} {cA dC : Nat → ClassId} {dI : Nat → Nat → Nat} {sp : Nat → Value} {xs : Nat → Int} {L base : Nat} {ad : Nat → Nat}
theorem zfd_link {oq idx ci k : Nat} (hts : ∀ w ∈ zgw, w.before args s = true) (h : (oq, idx, ci, k) ∈ zw_fd) : (Cond.fieldLink (zc_n oq) idx (zc_n ci) (zf_T ci k).2.1 (zf_T ci k).2.2.1).before args s = true := hts _ (zw_fd_ok h)
theorem zsf_link2 {eq0 : Nat × Nat × String × String × String} (hts : ∀ w ∈ zgw, w.before args s = true) (h : eq0 ∈ zw_sf) : (Cond.fieldLink (zc_n eq0.1) eq0.2.1 eq0.2.2.1 eq0.2.2.2.1 eq0.2.2.2.2).before args s = true := hts _ (zw_sf_ok h)
set_option maxHeartbeats 4000000 in
theorem zsD_ok {i : Instr} {z pc pc2 : Nat} {lv lv2 : LVs} {st st2 : List AV} {n n2 : Nat} {sq sq2 : Pl} {ls : Array Slot}
    (C : zCtx p s m args meth c y o ini b nL cA dC dI sp xs L base) (hi : zi y pc = some (i, z)) (h : zsD xs L o ini i z (pc, lv, st, n, sq) = some (pc2, lv2, st2, n2, sq2)) (hl : zLv sp ad n nL lv ls) (hp : zPl n st) (hH : zHp s cA dC dI base ad n sq H locs)
    (kk : n2 = n → sq2 = sq → ∀ ls2, zLv sp ad n nL lv2 ls2 → zPl n st2 → W p l e R s m args below meth c H locs cells slots Q (F0 m pc2 ls2 (st2.map (ztr sp ad)))) : W p l e R s m args below meth c H locs cells slots Q (F0 m pc ls (st.map (ztr sp ad))) := by
  obtain ⟨hx, hb, hml, hd, hown, hts, hK, hXt, hbs, hin⟩ := C
  obtain ⟨hdg, hz⟩ := hd _ _ _ hi
  obtain ⟨⟨hR, hRf, hn⟩, hP, hD, hS⟩ := hH
  have hsp := hXt.1
  obtain ⟨-, tq, g1, gL, gX, gI, gB, gS, -⟩ := hXt
  cases i with
  | getfield idx =>
    simp only [zsw, zln, Bool.false_eq_true, false_or] at hz
    subst hz
    rcases st with _ | ⟨cq | cq | cq, st⟩ <;> simp only [zsD, reduceCtorEq] at h
    obtain ⟨h1, h2⟩ := zPl.cons.mp hp
    split at h
    · next hc =>
      split at h
      · next v hv =>
        cases h
        unfold zsfd at hv
        split at hv
        · next ho =>
          obtain ⟨rfl, hj⟩ := ho
          obtain ⟨s1, s2, s3⟩ := gS _ hj
          have hcq : 100000 + (cq - 100000) = cq := by omega
          have e1 : ztr sp ad (.inr (.inr cq)) = Value.ref (tq (cq - 100000)) := by
            rw [← hcq]
            refine (zrv_giv (j := cq - 100000) ad).trans ?_
            rw [show 100000 + (cq - 100000) - 100000 = cq - 100000 from by omega]
            exact g1 _ (by omega)
          rw [List.map_cons, e1]
          split at hv
          · next hi9 =>
            cases hv
            subst hi9
            refine vk_getf hx hb s3 hS hown (zsf_link2 (eq0 := (9, 9, "java/lang/String", "value", "[B")) hts (by decide +kernel)) (fun _ h9 => h9) hdg ?_
            have k9 := kk rfl rfl ls hl (zPl.cons.mpr ⟨Or.inr (by omega), h2⟩)
            have e2 : ztr sp ad (.inr (.inr (100002 + (cq - 100000)))) = Value.ref (tq (cq - 100000 + 2)) := by
              rw [show 100002 + (cq - 100000) = 100000 + (cq - 100000 + 2) from by omega]
              exact (zrv_giv (j := cq - 100000 + 2) ad).trans (g1 _ (by omega))
            rw [List.map_cons, e2] at k9
            exact k9
          · split at hv
            · next hi15 =>
              cases hv
              subst hi15
              refine vk_getf hx hb s2 hS hown (zsf_link2 (eq0 := (9, 15, "java/lang/String", "coder", "B")) hts (by decide +kernel)) (fun _ h9 => h9) hdg ?_
              exact kk rfl rfl ls hl (zPl.cons.mpr ⟨⟨by decide, by decide⟩, h2⟩)
            · cases hv
        · cases hv
      · cases h
    · split at h
      · next ci k tt hv =>
        split at h
        · next hc =>
          obtain ⟨c1, c2, c3, c4⟩ := hc
          cases h
          obtain ⟨m1, m2, m3, m4⟩ := zfd_some hv
          rw [List.map_cons, show ztr sp ad (.inr (.inr cq)) = Value.ref (ad (cq - 1)) from zrv_cell c1 (by omega)]
          have hsz : k < (zsh (cq - 1)).2 := by rw [zsh_obj (by omega), c3]; exact c4
          have hv9 := zfs_get (ad := ad) (s := sq) hsz
          rw [c3] at hv9
          refine va_get (D := (dC, dI)) (ci := ci) (C := zc_n ci) (T := zf_T ci) (N := zf_n ci) hx hb hts (zcl_in m2) hown hK hP (cq - 1) (by rw [zwo_get (by omega), zent_obj c3 m2]) (zcl_get ci m2) k c4 (zfd_link hts m1) (fun _ h9 => h9) hv9 hdg ?_
          rw [← m4]
          by_cases ht : tt = 1
          · rw [if_pos ht] at kk ⊢
            have hle : (sq (cq - 1) k).toNat ≤ n := hRf (cq - 1) k (by omega) (by
              unfold zrefs
              rw [c3, ← m4, ht]
              simp only [Bool.or_eq_true, Bool.and_eq_true, decide_eq_true_eq]
              exact Or.inl ⟨by omega, trivial⟩)
            rw [zrc_rf (sp := sp) (by omega)]
            exact kk rfl rfl ls hl (zPl.cons.mpr ⟨Or.inl hle, h2⟩)
          · rw [if_neg ht] at kk ⊢
            exact kk rfl rfl ls hl (zPl.cons.mpr ⟨hR _ _, h2⟩)
        · cases h
      · cases h
  | iaload =>
    simp only [zsw, zln, Bool.false_eq_true, false_or] at hz
    subst hz
    rcases st with _ | ⟨iq | iq | iq, _ | ⟨cq | cq | cq, st⟩⟩ <;> simp only [zsD, reduceCtorEq] at h
    obtain ⟨h1, h2⟩ := zPl.cons.mp hp
    obtain ⟨h3, h2⟩ := zPl.cons.mp h2
    have h1 : zR iq := h1
    split at h
    · split at h
      · next hc =>
        split at h
        · next hr =>
          cases h
          have hj : cq - 100000 = 0 ∨ cq - 100000 = 1 ∨ cq - 100000 = 6 := by omega
          have e1 : ztr sp ad (.inr (.inr cq)) = Value.ref (tq (cq - 100000)) := by
            have hcq : cq = 100000 + (cq - 100000) := by omega
            rw [hcq]
            refine (zrv_giv (j := cq - 100000) ad).trans ?_
            rw [show 100000 + (cq - 100000) - 100000 = cq - 100000 from by omega]
            exact g1 _ (by omega)
          rw [List.map_cons, List.map_cons, e1]
          refine va_ti (i := Int32.ofInt iq) hx hb (gI _ hj) hS (zR_in h1 hr.1 hr.2) rfl hdg ?_
          have k9 := kk rfl rfl ls hl (zPl.cons.mpr ⟨zgiv_R gX iq, h2⟩)
          rw [zR_clamp h1, show ((iq.toNat : Nat) : Int) = iq from Int.toNat_of_nonneg hr.1]
          exact k9
        · cases h
      · cases h
    · split at h
      · next hc =>
        obtain ⟨c1, c2, c3, c4, c5⟩ := hc
        cases h
        rw [List.map_cons, List.map_cons, show ztr sp ad (.inr (.inr cq)) = Value.ref (ad (cq - 1)) from zrv_cell c1 (by omega)]
        refine va_iald (i := Int32.ofInt iq) hx hb hK hP (cq - 1) 0 (by rw [zwo_get (by omega), zent_num c3 (by decide) (by decide)]) rfl (zR_in h1 c4 c5) hdg ?_
        have k9 := kk rfl rfl ls hl (zPl.cons.mpr ⟨hR _ _, h2⟩)
        rw [zR_clamp h1, show ((iq.toNat : Nat) : Int) = iq from Int.toNat_of_nonneg c4]
        exact k9
      · cases h
  | baload =>
    simp only [zsw, zln, Bool.false_eq_true, false_or] at hz
    subst hz
    rcases st with _ | ⟨iq | iq | iq, _ | ⟨cq | cq | cq, st⟩⟩ <;> simp only [zsD, reduceCtorEq] at h
    obtain ⟨h1, h2⟩ := zPl.cons.mp hp
    obtain ⟨h3, h2⟩ := zPl.cons.mp h2
    have h1 : zR iq := h1
    split at h
    · split at h
      · next hc =>
        split at h
        · next hr =>
          cases h
          have hj : cq - 100000 = 4 ∨ cq - 100000 = 5 := by omega
          have e1 : ztr sp ad (.inr (.inr cq)) = Value.ref (tq (cq - 100000)) := by
            have hcq : cq = 100000 + (cq - 100000) := by omega
            rw [hcq]
            refine (zrv_giv (j := cq - 100000) ad).trans ?_
            rw [show 100000 + (cq - 100000) - 100000 = cq - 100000 from by omega]
            exact g1 _ (by omega)
          rw [List.map_cons, List.map_cons, e1]
          refine va_tb (i := Int32.ofInt iq) hx hb (gB _ hj) hS (zR_in h1 hr.1 hr.2) rfl hdg ?_
          have k9 := kk rfl rfl ls hl (zPl.cons.mpr ⟨zgiv_R gX iq, h2⟩)
          rw [zR_clamp h1, show ((iq.toNat : Nat) : Int) = iq from Int.toNat_of_nonneg hr.1]
          exact k9
        · cases h
      · cases h
    · split at h
      · next hc =>
        obtain ⟨c1, c2, c3, c4, c5⟩ := hc
        cases h
        rw [List.map_cons, List.map_cons, show ztr sp ad (.inr (.inr cq)) = Value.ref (ad (cq - 1)) from zrv_cell c1 (by omega)]
        have k9 := kk rfl rfl ls hl (zPl.cons.mpr ⟨hR _ _, h2⟩)
        rcases c3 with c3 | c3
        · refine va_bald (i := Int32.ofInt iq) hx hb hK hP (cq - 1) 1 (by rw [zwo_get (by omega), zent_num c3 (by decide) (by decide)]) rfl (zR_in h1 c4 c5) hdg ?_
          rw [zR_clamp h1, show ((iq.toNat : Nat) : Int) = iq from Int.toNat_of_nonneg c4]
          exact k9
        · refine va_zald (i := Int32.ofInt iq) hx hb hK hP (cq - 1) 2 (by rw [zwo_get (by omega), zent_num c3 (by decide) (by decide)]) rfl (zR_in h1 c4 c5) hdg ?_
          rw [zR_clamp h1, show ((iq.toNat : Nat) : Int) = iq from Int.toNat_of_nonneg c4]
          exact k9
      · cases h
  | aaload =>
    simp only [zsw, zln, Bool.false_eq_true, false_or] at hz
    subst hz
    rcases st with _ | ⟨iq | iq | iq, _ | ⟨cq | cq | cq, st⟩⟩ <;> simp only [zsD, reduceCtorEq] at h
    obtain ⟨h1, h2⟩ := zPl.cons.mp hp
    obtain ⟨h3, h2⟩ := zPl.cons.mp h2
    have h1 : zR iq := h1
    split at h
    · next hc =>
      obtain ⟨c1, c2, c3, c4, c5⟩ := hc
      cases h
      rw [List.map_cons, List.map_cons, show ztr sp ad (.inr (.inr cq)) = Value.ref (ad (cq - 1)) from zrv_cell c1 (by omega)]
      have hle : (sq (cq - 1) iq).toNat ≤ n := by
        have h9 := hRf (cq - 1) iq.toNat (by omega) (by
          unfold zrefs
          simp only [Bool.or_eq_true, Bool.and_eq_true, decide_eq_true_eq]
          exact Or.inr (by omega))
        rw [Int.toNat_of_nonneg c4] at h9
        exact h9
      have k9 := kk rfl rfl ls hl (zPl.cons.mpr ⟨Or.inl hle, h2⟩)
      rw [List.map_cons, show ztr sp ad (.inr (.inr (sq (cq - 1) iq).toNat)) = va_rf (zrc ad (sq (cq - 1) iq).toNat) from (zrc_rf (by omega)).symm] at k9
      rcases c3 with c3 | c3
      · refine va_aldq (i := Int32.ofInt iq) (C := "OneForOne$Law") hx hb hK hP (cq - 1) 3 (by rw [zwo_get (by omega), zent_ref c3 (by decide)]) rfl (zR_in h1 c4 c5) hdg ?_
        rw [zR_clamp h1, show ((iq.toNat : Nat) : Int) = iq from Int.toNat_of_nonneg c4]
        exact k9
      · refine va_aldq (i := Int32.ofInt iq) (C := "OneForOne$Sheet") hx hb hK hP (cq - 1) 4 (by rw [zwo_get (by omega), zent_ref c3 (by decide)]) rfl (zR_in h1 c4 c5) hdg ?_
        rw [zR_clamp h1, show ((iq.toNat : Nat) : Int) = iq from Int.toNat_of_nonneg c4]
        exact k9
    · cases h
  | arraylength =>
    simp only [zsw, zln, Bool.false_eq_true, false_or] at hz
    subst hz
    rcases st with _ | ⟨cq | cq | cq, st⟩ <;> simp only [zsD, reduceCtorEq] at h
    obtain ⟨h1, h2⟩ := zPl.cons.mp hp
    split at h
    · split at h
      · next hc =>
        cases h
        have e1 : ztr sp ad (.inr (.inr cq)) = Value.ref (tq (cq - 100000)) := by
          have hcq : cq = 100000 + (cq - 100000) := by omega
          rw [hcq]
          refine (zrv_giv (j := cq - 100000) ad).trans ?_
          rw [show 100000 + (cq - 100000) - 100000 = cq - 100000 from by omega]
          exact g1 _ (by omega)
        have hll := zgiv_len (xs := xs) (j := cq - 100000) gL
        have k9 := kk rfl rfl ls hl (zPl.cons.mpr ⟨⟨by omega, by omega⟩, h2⟩)
        rw [List.map_cons, show ztr sp ad (.inl ((zgiv xs L (cq - 100000)).1 : Int)) = Value.int (Int32.ofNat (zgiv xs L (cq - 100000)).1) from by show Value.int (Int32.ofInt _) = _; rw [zR_ofNat]] at k9
        rw [List.map_cons, e1]
        have key : ∀ (ty : FieldType) (f9 : Nat → Value), va_T ty (tq (cq - 100000)) (zgiv xs L (cq - 100000)).1 f9 (zA base) s s.heap → W p l e R s m args below meth c H locs cells slots Q (F0 m pc ls (Value.ref (tq (cq - 100000)) :: st.map (ztr sp ad))) := by
          rintro ty f9 ⟨cell, q1, q2, q3, q4, q5, q6, q7⟩
          exact W.alen (n := Int32.ofNat (zgiv xs L (cq - 100000)).1) hx hb (by rw [hS.2.1 _ (Array.getElem?_eq_some_iff.mp q1).1 q7]; exact q1) q2 q5 rfl rfl hdg k9
        rcases hc with hc | hc | hc | hc | hc
        · exact key _ _ (gI _ (by omega))
        · exact key _ _ (gI _ (by omega))
        · exact key _ _ (gB _ (by omega))
        · exact key _ _ (gB _ (by omega))
        · exact key _ _ (gI _ (by omega))
      · cases h
    · split at h
      · next hc =>
        obtain ⟨c1, c2, c3, c4⟩ := hc
        cases h
        rw [List.map_cons, show ztr sp ad (.inr (.inr cq)) = Value.ref (ad (cq - 1)) from zrv_cell c1 (by omega)]
        have hll := zsh_len (cq - 1)
        have k9 := kk rfl rfl ls hl (zPl.cons.mpr ⟨⟨by omega, by omega⟩, h2⟩)
        rcases (show (zsh (cq - 1)).1 = 20 ∨ (zsh (cq - 1)).1 = 21 ∨ (zsh (cq - 1)).1 = 22 ∨ (zsh (cq - 1)).1 = 23 ∨ (zsh (cq - 1)).1 = 24 by omega) with c5 | c5 | c5 | c5 | c5
        · exact va_alen (x := ((zsh (cq - 1)).2, .inl fun j => Int32.ofInt (sq (cq - 1) j))) hx hb hK hP (cq - 1) 0 (by rw [zwo_get (by omega), zent_num c5 (by decide) (by decide)]) (ty := .int) rfl (zR_ofNat (zsh (cq - 1)).2).symm hdg k9
        · exact va_alen (x := ((zsh (cq - 1)).2, .inl fun j => Int32.ofInt (sq (cq - 1) j))) hx hb hK hP (cq - 1) 1 (by rw [zwo_get (by omega), zent_num c5 (by decide) (by decide)]) (ty := .byte) rfl (zR_ofNat (zsh (cq - 1)).2).symm hdg k9
        · exact va_alen (x := ((zsh (cq - 1)).2, .inl fun j => Int32.ofInt (sq (cq - 1) j))) hx hb hK hP (cq - 1) 2 (by rw [zwo_get (by omega), zent_num c5 (by decide) (by decide)]) (ty := .boolean) rfl (zR_ofNat (zsh (cq - 1)).2).symm hdg k9
        · exact va_alen (x := ((zsh (cq - 1)).2, .inr (.inr (.inr (.inr fun j => zrc ad (sq (cq - 1) j).toNat))))) hx hb hK hP (cq - 1) 3 (by rw [zwo_get (by omega), zent_ref c5 (by decide)]) (ty := .object "OneForOne$Law") rfl (zR_ofNat (zsh (cq - 1)).2).symm hdg k9
        · exact va_alen (x := ((zsh (cq - 1)).2, .inr (.inr (.inr (.inr fun j => zrc ad (sq (cq - 1) j).toNat))))) hx hb hK hP (cq - 1) 4 (by rw [zwo_get (by omega), zent_ref c5 (by decide)]) (ty := .object "OneForOne$Sheet") rfl (zR_ofNat (zsh (cq - 1)).2).symm hdg k9
      · cases h
  | _ => simp [zsD] at h
end ZSND
