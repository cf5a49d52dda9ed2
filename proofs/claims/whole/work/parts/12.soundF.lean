/-! the machine does what the walker does: the group that writes and makes -/
theorem zac_some {oq idx : Nat} (h : zac oq idx = true) : (oq, idx) ∈ zw_ac := by
  unfold zac at h
  obtain ⟨e0, h1, h2⟩ := List.any_eq_true.mp h
  simp only [Bool.and_eq_true, beq_iff_eq] at h2
  obtain ⟨a1, a2⟩ := e0
  dsimp only at h2
  rw [h2.1, h2.2] at h1
  exact h1
theorem zoi_some {oq idx : Nat} (h : zoi oq idx = true) : (oq, idx) ∈ zw_oi := by
  unfold zoi at h
  obtain ⟨e0, h1, h2⟩ := List.any_eq_true.mp h
  simp only [Bool.and_eq_true, beq_iff_eq] at h2
  obtain ⟨a1, a2⟩ := e0
  dsimp only at h2
  rw [h2.1, h2.2] at h1
  exact h1
theorem zcla_some {oq idx ci : Nat} (h : zcla oq idx = some ci) : (oq, idx, ci) ∈ zw_cl := by
  unfold zcla at h
  split at h
  · next e0 h0 =>
    have h1 := List.find?_some h0
    have h2 := List.mem_of_find?_eq_some h0
    simp only [Bool.and_eq_true, beq_iff_eq] at h1
    obtain ⟨a1, a2, a3⟩ := e0
    dsimp only at h1 h
    cases h
    rw [h1.1, h1.2] at h2
    exact h2
  · cases h
theorem zmi_in : (.arrayClass .int : Cond) ∈ zw_mi ∧ (.arrayClass .byte : Cond) ∈ zw_mi ∧ (.arrayClass .boolean : Cond) ∈ zw_mi ∧ (.native arraycopyName : Cond) ∈ zw_mi ∧ (.static arraycopyName : Cond) ∈ zw_mi ∧ (.initialized "java/lang/System" : Cond) ∈ zw_mi ∧ (.instanceMethod objectInit : Cond) ∈ zw_mi ∧ (.code objectInit ⟨#[0xb1]⟩ 1 none : Cond) ∈ zw_mi := by
  unfold zw_mi
  simp
theorem zb8_bool {v : Int} (h : v = 0 ∨ v = 1) : vp_nar .boolean (Int32.ofInt v) = Int32.ofInt v := by
  rcases h with rfl | rfl <;> decide
theorem zcat_map {sp : Nat → Value} {ad : Nat → Nat} (hsp : ∀ j, sp j = .null ∨ ∃ a, sp j = .ref a) (stq : List AV) : ((stq.map (ztr sp ad)).map fun v => v.category) = stq.map zcat := by
  rw [List.map_map]
  apply List.map_congr_left
  intro v _
  exact ztr_cat sp ad hsp v
theorem ztr_newref {sp : Nat → Value} {ad : Nat → Nat} {n q : Nat} (h : n ≤ 1000) : ztr sp (fun k => if k = n then q else ad k) (.inr (.inr (n + 1))) = Value.ref q := by
  have h1 : zrv sp (fun k => if k = n then q else ad k) (n + 1) = .ref ((fun k => if k = n then q else ad k) (n + 1 - 1)) := zrv_cell (by omega) (by omega)
  refine Eq.trans h1 ?_
  show Value.ref (if n + 1 - 1 = n then q else ad (n + 1 - 1)) = _
  rw [if_pos (by omega)]
section ZSND
variable {p : Program} {l : Launch} {e : Env} {R : Room} {s : State} {m : MethodId} {args : Array Value} {below : List Frame} {meth : Method} {c : Code} {H : Heap} {locs : List Loc} {cells slots : Nat} {Q : State → Prop}
variable {y o : Nat} {ini : Bool} {b : ByteArray} {nL : Nat} {cA dC : Nat → ClassId} {dI : Nat → Nat → Nat} {sp : Nat → Value} {xs : Nat → Int} {L base : Nat} {ad : Nat → Nat}
/-- a new cell: the world grows by it -/
theorem zgrow {n q : Nat} {sq : Pl} {H1 : Heap} {locs1 : List Loc} {x : va_E} (hM : zmok n sq) (hn : n < 1000) (hx : x = zent cA (fun k => if k = n then q else ad k) (znew sq n) n) (hP : va_P (dC, dI) classes (zwo cA ad n sq ++ [(q, x)]) H1) (hD : va_D (zA base) (zwo cA ad n sq ++ [(q, x)])) (hS : va_S (zA base) s.heap H1 locs1) : zHp s cA dC dI base (fun k => if k = n then q else ad k) (n + 1) (znew sq n) H1 locs1 := by
  rw [zwo_new hM hx] at hP hD
  exact ⟨zmok_new hM hn, hP, hD, hS⟩
set_option maxHeartbeats 4000000 in
theorem zsE_ok {i : Instr} {z pc pc2 : Nat} {lv lv2 : LVs} {st st2 : List AV} {n n2 : Nat} {sq sq2 : Pl} {ls : Array Slot}
    (C : zCtx p s m args meth c y o ini b nL cA dC dI sp xs L base) (hi : zi y pc = some (i, z)) (h : zsE o ini i z (pc, lv, st, n, sq) = some (pc2, lv2, st2, n2, sq2)) (hl : zLv sp ad n nL lv ls) (hp : zPl n st) (hH : zHp s cA dC dI base ad n sq H locs)
    (hrc : cells + (n2 - n) ≤ R.cells) (hrs : slots + (zsz n2 - zsz n) ≤ R.slots) (hrf : 1 ≤ R.frames) (hrl : 64 ≤ R.locals)
    (kk : ∀ (ad2 : Nat → Nat) (H2 : Heap) (locs2 : List Loc) (cells2 slots2 : Nat), n ≤ n2 → (∀ k, k < n → ad2 k = ad k) → cells2 = cells + (n2 - n) → slots2 = slots + (zsz n2 - zsz n) → zHp s cA dC dI base ad2 n2 sq2 H2 locs2 → zLv sp ad2 n2 nL lv2 ls → zPl n2 st2 → W p l e R s m args below meth c H2 locs2 cells2 slots2 Q (F0 m pc2 ls (st2.map (ztr sp ad2)))) : W p l e R s m args below meth c H locs cells slots Q (F0 m pc ls (st.map (ztr sp ad))) := by
  have C0 := C
  obtain ⟨hx, hb, hml, hd, hown, hts, hK, hXt, hbs, hin⟩ := C
  obtain ⟨hdg, hz⟩ := hd _ _ _ hi
  have hH0 := hH
  obtain ⟨hM, hP, hD, hS⟩ := hH
  have hM0 := hM
  obtain ⟨hR, hRf, hn⟩ := hM
  have hAq : ∀ q : Nat, s.heap.size ≤ q → zA base q := fun q hq => Nat.le_trans hbs hq
  cases i with
  | putfield idx =>
    simp only [zsw, zln, Bool.false_eq_true, false_or] at hz
    subst hz
    rcases st with _ | ⟨vq | vq | vq, _ | ⟨cq | cq | cq, st⟩⟩ <;> simp only [zsE, reduceCtorEq] at h
    · obtain ⟨h1, h2⟩ := zPl.cons.mp hp
      obtain ⟨h3, h2⟩ := zPl.cons.mp h2
      split at h
      · next ci kq tt hv =>
        split at h
        · next hc =>
          obtain ⟨c1, c2, c3, c4, c5, c6⟩ := hc
          obtain ⟨m1, m2, m3, m4⟩ := zfd_some hv
          cases h
          have htt : (zf ci kq).2.2.2 ≠ 1 := by omega
          rw [List.map_cons, List.map_cons, show ztr sp ad (.inr (.inr cq)) = Value.ref (ad (cq - 1)) from zrv_cell c1 (by omega)]
          have hnf : narrow (zf_ty ci kq) (.int (Int32.ofInt vq)) = .int (Int32.ofInt vq) ∧ fits (zf_ty ci kq) (.int (Int32.ofInt vq)) = true := by
            rcases c5 with c5 | ⟨c5, c7⟩
            · rw [zf_ty0 ci m2 kq c4 (by omega)]; exact ⟨rfl, rfl⟩
            · rw [zf_ty2 ci m2 kq c4 (by omega)]
              rcases c7 with rfl | rfl <;> exact ⟨by decide, by decide⟩
          refine zput C0 hdg hH0 m1 m2 c4 c1 c2 c3 c6 hnf.1 hnf.2 (vq := vq) (by rw [if_neg htt]; rfl) h1 (fun q => absurd q htt) (fun H1 locs1 k1 => ?_)
          exact kk ad H1 locs1 cells slots (Nat.le_refl _) (fun _ _ => rfl) (by omega) (by omega) k1 hl h2
        · cases h
      · cases h
    · obtain ⟨h1, h2⟩ := zPl.cons.mp hp
      obtain ⟨h3, h2⟩ := zPl.cons.mp h2
      split at h
      · next ci kq tt hv =>
        split at h
        · next hc =>
          obtain ⟨c1, c2, c3, c4, c5, c6, c7, c8⟩ := hc
          obtain ⟨m1, m2, m3, m4⟩ := zfd_some hv
          cases h
          have htt : (zf ci kq).2.2.2 = 1 := by omega
          rw [List.map_cons, List.map_cons, show ztr sp ad (.inr (.inr cq)) = Value.ref (ad (cq - 1)) from zrv_cell c1 (by omega), show ztr sp ad (.inr (.inr vq)) = Value.ref (ad (vq - 1)) from zrv_cell c6 (by omega)]
          obtain ⟨n1, n3⟩ := zrefty_fits (zf_ty1 ci m2 kq c4 htt) (ad (vq - 1))
          refine zput C0 hdg hH0 m1 m2 c4 c1 c2 c3 c8 n3 n1 (vq := (vq : Int)) (by rw [if_pos htt, Int.toNat_natCast, zrc_rf (sp := sp) (by omega), zrv_cell c6 (by omega)]) ⟨by omega, by omega⟩ (fun _ => by rw [Int.toNat_natCast]; exact c7) (fun H1 locs1 k1 => ?_)
          exact kk ad H1 locs1 cells slots (Nat.le_refl _) (fun _ _ => rfl) (by omega) (by omega) k1 hl h2
        · cases h
      · cases h
  | iastore =>
    simp only [zsw, zln, Bool.false_eq_true, false_or] at hz
    subst hz
    rcases st with _ | ⟨vq | vq | vq, _ | ⟨iq | iq | iq, _ | ⟨cq | cq | cq, st⟩⟩⟩ <;> simp only [zsE, reduceCtorEq] at h
    obtain ⟨h1, h2⟩ := zPl.cons.mp hp
    obtain ⟨h4, h2⟩ := zPl.cons.mp h2
    obtain ⟨h3, h2⟩ := zPl.cons.mp h2
    have h4 : zR iq := h4
    split at h
    · next hc =>
      obtain ⟨c1, c2, c3, c4, c5⟩ := hc
      cases h
      rw [List.map_cons, List.map_cons, List.map_cons, show ztr sp ad (.inr (.inr cq)) = Value.ref (ad (cq - 1)) from zrv_cell c1 (by omega)]
      have hset : (zwo cA ad n sq).set (cq - 1) (ad (cq - 1), .inl (cA 20, (zsh (cq - 1)).2, .inl (upd (fun j : Nat => Int32.ofInt (sq (cq - 1) j)) (Int32.ofInt iq).toNatClampNeg (Int32.ofInt vq)))) = zwo cA ad n (zup sq (cq - 1) iq vq) := by
        refine zwo_set (by omega) ?_ (fun a ha => zup_ne ha)
        rw [zent_num c3 (by decide) (by decide)]
        congr 3
        congr 1
        funext j
        rw [zR_clamp h4]
        unfold upd
        by_cases q : j = iq.toNat
        · rw [if_pos q, show ((j : Nat) : Int) = iq from by omega, zup_same]
        · rw [if_neg q, zup_other (by omega)]
      refine va_iast (i := Int32.ofInt iq) (x := Int32.ofInt vq) hx hb hK hP hD hS (cq - 1) 0 (by rw [zwo_get (by omega), zent_num c3 (by decide) (by decide)]) rfl (zR_in h4 c4 c5) hdg (fun H1 locs1 a1 a2 a3 => ?_)
      rw [hset] at a1 a2
      refine kk ad H1 locs1 cells slots (Nat.le_refl _) (fun _ _ => rfl) (by omega) (by omega) ⟨zmok_up hM0 h1 (fun j hj hj2 => ?_), a1, a2, a3⟩ hl h2
      unfold zrefs at hj2
      rw [c3] at hj2
      exact absurd hj2 (by simp)
    · cases h
  | bastore =>
    simp only [zsw, zln, Bool.false_eq_true, false_or] at hz
    subst hz
    rcases st with _ | ⟨vq | vq | vq, _ | ⟨iq | iq | iq, _ | ⟨cq | cq | cq, st⟩⟩⟩ <;> simp only [zsE, reduceCtorEq] at h
    obtain ⟨h1, h2⟩ := zPl.cons.mp hp
    obtain ⟨h4, h2⟩ := zPl.cons.mp h2
    obtain ⟨h3, h2⟩ := zPl.cons.mp h2
    have h4 : zR iq := h4
    split at h
    · next hc =>
      obtain ⟨c1, c2, c3, c4, c5⟩ := hc
      cases h
      rw [List.map_cons, List.map_cons, List.map_cons, show ztr sp ad (.inr (.inr cq)) = Value.ref (ad (cq - 1)) from zrv_cell c1 (by omega)]
      have hset : ∀ (ci : Nat) (w : Int), (zsh (cq - 1)).1 = ci → 20 ≤ ci → ci < 23 → (zwo cA ad n sq).set (cq - 1) (ad (cq - 1), .inl (cA ci, (zsh (cq - 1)).2, .inl (upd (fun j : Nat => Int32.ofInt (sq (cq - 1) j)) (Int32.ofInt iq).toNatClampNeg (Int32.ofInt w)))) = zwo cA ad n (zup sq (cq - 1) iq w) := by
        intro ci w e1 e2 e3
        refine zwo_set (by omega) ?_ (fun a ha => zup_ne ha)
        rw [zent_num e1 e2 e3]
        congr 3
        congr 1
        funext j
        rw [zR_clamp h4]
        unfold upd
        by_cases q : j = iq.toNat
        · rw [if_pos q, show ((j : Nat) : Int) = iq from by omega, zup_same]
        · rw [if_neg q, zup_other (by omega)]
      have hnr : ∀ j : Nat, zrefs (cq - 1) j = true → False := by
        intro j hj2
        unfold zrefs at hj2
        simp only [Bool.or_eq_true, Bool.and_eq_true, decide_eq_true_eq] at hj2
        omega
      rcases c3 with c3 | ⟨c3, c6⟩
      · rw [if_pos c3] at kk
        refine va_bast (i := Int32.ofInt iq) (x := Int32.ofInt vq) hx hb hK hP hD hS (cq - 1) 1 (by rw [zwo_get (by omega), zent_num c3 (by decide) (by decide)]) rfl (zR_in h4 c4 c5) hdg (fun H1 locs1 a1 a2 a3 => ?_)
        rw [vp_nar_byte, show (Int32.ofInt vq).toInt8.toInt32 = Int32.ofInt (zb8 vq) from (zt_of _).symm, hset 21 _ c3 (by decide) (by decide)] at a1 a2
        exact kk ad H1 locs1 cells slots (Nat.le_refl _) (fun _ _ => rfl) (by omega) (by omega) ⟨zmok_up hM0 (zR_t _) (fun j hj hj2 => (hnr j hj2).elim), a1, a2, a3⟩ hl h2
      · rw [if_neg (by omega)] at kk
        refine va_zast (i := Int32.ofInt iq) (x := Int32.ofInt vq) hx hb hK hP hD hS (cq - 1) 2 (by rw [zwo_get (by omega), zent_num c3 (by decide) (by decide)]) rfl (zR_in h4 c4 c5) hdg (fun H1 locs1 a1 a2 a3 => ?_)
        rw [zb8_bool c6, hset 22 _ c3 (by decide) (by decide)] at a1 a2
        exact kk ad H1 locs1 cells slots (Nat.le_refl _) (fun _ _ => rfl) (by omega) (by omega) ⟨zmok_up hM0 h1 (fun j hj hj2 => (hnr j hj2).elim), a1, a2, a3⟩ hl h2
    · cases h
  | aastore =>
    simp only [zsw, zln, Bool.false_eq_true, false_or] at hz
    subst hz
    rcases st with _ | ⟨vq | vq | vq, _ | ⟨iq | iq | iq, _ | ⟨cq | cq | cq, st⟩⟩⟩ <;> simp only [zsE, reduceCtorEq] at h
    obtain ⟨h1, h2⟩ := zPl.cons.mp hp
    obtain ⟨h4, h2⟩ := zPl.cons.mp h2
    obtain ⟨h3, h2⟩ := zPl.cons.mp h2
    have h4 : zR iq := h4
    split at h
    · next hc =>
      obtain ⟨c1, c2, w1, w2, c3, c4, c5⟩ := hc
      cases h
      rw [List.map_cons, List.map_cons, List.map_cons, show ztr sp ad (.inr (.inr cq)) = Value.ref (ad (cq - 1)) from zrv_cell c1 (by omega), show ztr sp ad (.inr (.inr vq)) = Value.ref (ad (vq - 1)) from zrv_cell w1 (by omega)]
      have hset : ∀ ci : Nat, (zsh (cq - 1)).1 = ci → 23 ≤ ci → (zwo cA ad n sq).set (cq - 1) (ad (cq - 1), .inl (cA ci, (zsh (cq - 1)).2, .inr (.inr (.inr (.inr (va_up (fun j : Nat => zrc ad (sq (cq - 1) j).toNat) (Int32.ofInt iq).toNatClampNeg (some (ad (vq - 1))))))))) = zwo cA ad n (zup sq (cq - 1) iq (vq : Int)) := by
        intro ci e1 e2
        refine zwo_set (by omega) ?_ (fun a ha => zup_ne ha)
        rw [zent_ref e1 e2]
        have e0 : va_up (fun j : Nat => zrc ad (sq (cq - 1) j).toNat) (Int32.ofInt iq).toNatClampNeg (some (ad (vq - 1))) = fun j : Nat => zrc ad (zup sq (cq - 1) iq (vq : Int) (cq - 1) j).toNat := by
          funext j
          rw [zR_clamp h4]
          unfold va_up
          by_cases q : j = iq.toNat
          · rw [if_pos q, show ((j : Nat) : Int) = iq from by omega, zup_same, Int.toNat_natCast]
            unfold zrc
            rw [if_neg (by omega)]
          · rw [if_neg q, zup_other (by omega)]
        rw [e0]
      have hM2 : zmok n (zup sq (cq - 1) iq (vq : Int)) := zmok_up hM0 ⟨by omega, by omega⟩ (fun _ _ _ => by rw [Int.toNat_natCast]; exact w2)
      rcases c3 with ⟨c3, c6⟩ | ⟨c3, c6⟩
      · refine va_astq (i := Int32.ofInt iq) (r := (zc_n 1, zf_T 1, zf_n 1)) hx hb hK hP hD hS (cq - 1) 3 (vq - 1) 1 (by rw [zwo_get (by omega), zent_ref c3 (by decide)]) rfl (by rw [zwo_get (by omega), zent_obj c6 (by decide)]) rfl (zR_in h4 c4 c5) hdg (fun H1 locs1 a1 a2 a3 => ?_)
        rw [hset 23 c3 (by decide)] at a1 a2
        exact kk ad H1 locs1 cells slots (Nat.le_refl _) (fun _ _ => rfl) (by omega) (by omega) ⟨hM2, a1, a2, a3⟩ hl h2
      · refine va_astq (i := Int32.ofInt iq) (r := (zc_n 5, zf_T 5, zf_n 5)) hx hb hK hP hD hS (cq - 1) 4 (vq - 1) 5 (by rw [zwo_get (by omega), zent_ref c3 (by decide)]) rfl (by rw [zwo_get (by omega), zent_obj c6 (by decide)]) rfl (zR_in h4 c4 c5) hdg (fun H1 locs1 a1 a2 a3 => ?_)
        rw [hset 24 c3 (by decide)] at a1 a2
        exact kk ad H1 locs1 cells slots (Nat.le_refl _) (fun _ _ => rfl) (by omega) (by omega) ⟨hM2, a1, a2, a3⟩ hl h2
    · cases h
  | new idx =>
    simp only [zsw, zln, Bool.false_eq_true, false_or] at hz
    subst hz
    simp only [zsE] at h
    split at h
    · next ci hv =>
      split at h
      · next hc =>
        obtain ⟨c1, c2, c3⟩ := hc
        cases h
        have hn9 : n < 1000 := zsh_bound (by omega)
        have hzz := zsz_succ n
        refine va_new (ci := ci) (fs := zfs ad (znew sq n) n) (C := zc_n ci) (T := zf_T ci) (N := zf_n ci) hx hb hts (zcl_in c3) (zf_ty ci) (zf_tyok ci c3) hown (hts _ (zw_cl_ok (zcla_some hv))) (hts _ (zw_in_ok (zinn_in ci c3))) (hts _ (zw_ini_ok (zini_in ci c3))) hK hP hD hS hAq (zcl_get ci c3) (fun j hj => ?_) (by omega) (by omega) hdg (fun q H1 a1 a2 a3 => ?_)
        · rw [zf_def ci c3 j hj]
          unfold vp_V
          rw [List.getD_eq_getElem?_getD, zfs_get (by rw [c2]; exact hj), c1]
          have e0 : znew sq n n (j : Int) = 0 := by unfold znew; rw [if_pos rfl]
          rw [e0]
          by_cases q : (zf ci j).2.2.2 = 1
          · rw [if_pos q, if_pos q]; rfl
          · rw [if_neg q, if_neg q]; rfl
        · have hx9 : (Sum.inr (ci, zfs ad (znew sq n) n) : va_E) = zent cA (fun k => if k = n then q else ad k) (znew sq n) n := by
            rw [zent_obj c1 c3]
            congr 2
            unfold zfs
            apply List.map_congr_left
            intro j _
            have e0 : znew sq n n (j : Int) = 0 := by unfold znew; rw [if_pos rfl]
            rw [e0]
            rfl
          have g1 := zgrow hM0 hn9 hx9 a1 a2 a3
          have k9 := kk _ H1 locs (cells + 1) (slots + zf_n ci) (by omega) (fun k hk => if_neg (by omega)) (by omega) (by omega) g1 (hl.new hn) (zPl.cons.mpr ⟨Or.inl (Nat.le_refl _), hp.new⟩)
          rw [List.map_cons, zPl.newmap hp hn, ztr_newref hn] at k9
          exact k9
      · cases h
    · cases h
  | newarray a =>
    simp only [zsw, zln, Bool.false_eq_true, false_or] at hz
    subst hz
    rcases st with _ | ⟨kq | kq | kq, st⟩ <;> simp only [zsE, reduceCtorEq] at h
    obtain ⟨h1, h2⟩ := zPl.cons.mp hp
    have h1 : zR kq := h1
    split at h
    · next hc =>
      obtain ⟨c1, c2, c3⟩ := hc
      cases h
      have hn9 : n < 1000 := zsh_bound (by omega)
      have hzz := zsz_succ n
      have hlen := zsh_len n
      have hcl : (Int32.ofInt kq).toNatClampNeg = (zsh n).2 := by rw [zR_clamp h1, c3, Int.toNat_natCast]
      have hneg : ¬ Int32.ofInt kq < 0 := by
        rw [← zI0, zR_lt h1 zR0]
        omega
      have main : ∀ (ty : FieldType) (t0 : Nat), newarray.typeOf a = ty → (zTY cA)[t0]? = some (cA (zatk a), ty) → (Cond.arrayClass ty).before args s = true → componentBytes ty ≤ 4 → defaultValue ty = .int 0 → (∀ C0 : String, ty ≠ .object C0) → 20 ≤ zatk a → zatk a < 23 → W p l e R s m args below meth c H locs cells slots Q (F0 m pc ls (.int (Int32.ofInt kq) :: st.map (ztr sp ad))) := by
        intro ty t0 e1 e2 e3 e4 e5 e6 e7 e8
        subst e1
        refine va_newaK (N := (zsh n).2) hx hb e3 rfl hdg rfl hneg hcl (Nat.le_trans (Nat.mul_le_mul hlen e4) (by decide)) (by omega) (by omega) rfl (fun H1 cB f1 z1 o1 hAr hNm => ?_)
        have hcB : cB = cA (zatk a) := by
          have g2 := (hK.2 t0 _ e2).2
          have g3 : s.vm.findClass ("[" ++ (newarray.typeOf a).toString) = some (cA (zatk a)) := by
            cases a <;> first | exact g2 | exact absurd c2 (by decide)
          exact Option.some.inj (hNm.symm.trans g3)
        subst hcB
        have hx9 : (Sum.inl (cA (zatk a), ((zsh n).2, Sum.inl fun _ => 0)) : va_E) = zent cA (fun k => if k = n then H.size else ad k) (znew sq n) n := by
          rw [zent_num c1 e7 e8]
          congr 4
          funext j
          have e0 : znew sq n n (j : Int) = 0 := by unfold znew; rw [if_pos rfl]
          rw [e0]
          rfl
        have hkq : ∀ (k : Nat) (x : Nat × va_E), (zwo cA ad n sq)[k]? = some x → H1[x.1]? = H[x.1]? := fun k x hx => o1 x.1 ((hP k x hx).lt)
        have hP2 : va_P (dC, dI) classes (zwo cA ad n sq ++ [(H.size, Sum.inl (cA (zatk a), ((zsh n).2, Sum.inl fun _ => 0)))]) H1 := (hP.kept hkq).app (fun k x hx => by
          have hz : k < 1 := (List.getElem?_eq_some_iff.mp hx).1
          rw [show k = 0 by omega] at hx
          cases hx
          show H1[H.size]? = some (vp_cell _ _)
          rw [f1, e5]
          rfl)
        have g1 := zgrow (ad := ad) hM0 hn9 hx9 hP2 (hD.push hP rfl (hAq _ hS.1)) ⟨Nat.le_trans hS.1 (by omega), fun x h1 h2 => (o1 x (Nat.lt_of_lt_of_le h1 hS.1)).trans (hS.2.1 x h1 h2), hS.2.2⟩
        have k9 := kk _ H1 locs (cells + 1) (slots + (zsh n).2) (by omega) (fun k hk => if_neg (by omega)) (by omega) (by omega) g1 (hl.new hn) (zPl.cons.mpr ⟨Or.inl (Nat.le_refl _), h2.new⟩)
        rw [List.map_cons, zPl.newmap h2 hn, ztr_newref hn] at k9
        exact k9
      cases a with
      | int => exact main .int 0 rfl rfl (hts _ (zw_mi_ok zmi_in.1)) (by decide) rfl (fun _ q => by cases q) (by decide) (by decide)
      | byte => exact main .byte 1 rfl rfl (hts _ (zw_mi_ok zmi_in.2.1)) (by decide) rfl (fun _ q => by cases q) (by decide) (by decide)
      | boolean => exact main .boolean 2 rfl rfl (hts _ (zw_mi_ok zmi_in.2.2.1)) (by decide) rfl (fun _ q => by cases q) (by decide) (by decide)
      | _ => exact absurd c2 (by decide)
    · cases h
  | anewarray idx =>
    simp only [zsw, zln, Bool.false_eq_true, false_or] at hz
    subst hz
    rcases st with _ | ⟨kq | kq | kq, st⟩ <;> simp only [zsE, reduceCtorEq] at h
    obtain ⟨h1, h2⟩ := zPl.cons.mp hp
    have h1 : zR kq := h1
    split at h
    · next ci hv =>
      split at h
      · next hc =>
        obtain ⟨c1, c3⟩ := hc
        cases h
        have hn9 : n < 1000 := zsh_bound (by omega)
        have hzz := zsz_succ n
        have hlen := zsh_len n
        have hcl : (Int32.ofInt kq).toNatClampNeg = (zsh n).2 := by rw [zR_clamp h1, c3, Int.toNat_natCast]
        have hneg : ¬ Int32.ofInt kq < 0 := by
          rw [← zI0, zR_lt h1 zR0]
          omega
        obtain ⟨-, tq, -, -, -, -, -, -, -, -, -, -, -, -, -, gA, gB⟩ := hXt
        have main : ∀ (C0 : String) (t0 kd : Nat), zc_n ci = C0 → (zsh n).1 = kd → (zTY cA)[t0]? = some (cA kd, .object C0) → va_AO C0 s → 23 ≤ kd → W p l e R s m args below meth c H locs cells slots Q (F0 m pc ls (.int (Int32.ofInt kq) :: st.map (ztr sp ad))) := by
          intro C0 t0 kd e1 e2 e3 e4 e5
          subst e1
          refine va_newq (C := zc_n ci) (N' := (zsh n).2) hx hb hown (hts _ (zw_cl_ok (zcla_some hv))) e4 hK hP hD hS hAq hneg hcl (by omega) (by omega) (by omega) hdg (fun q cB H1 a0 a1 a2 a3 => ?_)
          have hcB : cB = cA kd := by
            obtain ⟨kA, comp, g1, g2, g3, g4⟩ := (hK.2 t0 _ e3).2
            obtain ⟨kA2, comp2, g5, g6, g7, g8⟩ := (a0.2 5 _ rfl).2
            exact Option.some.inj (g8.symm.trans g4)
          subst hcB
          have hx9 : (Sum.inl (cA kd, (zsh n).2, .inr (.inr (.inr (.inr (fun _ => none))))) : va_E) = zent cA (fun k => if k = n then q else ad k) (znew sq n) n := by
            rw [zent_ref e2 e5]
            have e0 : (fun j : Nat => zrc (fun k => if k = n then q else ad k) (znew sq n n (j : Int)).toNat) = fun _ => none := by
              funext j
              have e1 : znew sq n n (j : Int) = 0 := by unfold znew; rw [if_pos rfl]
              rw [e1]
              rfl
            rw [e0]
          have g1 := zgrow (ad := ad) hM0 hn9 hx9 a1 a2 a3
          have k9 := kk _ H1 locs (cells + 1) (slots + (zsh n).2) (by omega) (fun k hk => if_neg (by omega)) (by omega) (by omega) g1 (hl.new hn) (zPl.cons.mpr ⟨Or.inl (Nat.le_refl _), h2.new⟩)
          rw [List.map_cons, zPl.newmap h2 hn, ztr_newref hn] at k9
          exact k9
        rcases c1 with ⟨rfl, c2⟩ | ⟨rfl, c2⟩
        · exact main "OneForOne$Law" 3 23 rfl c2 rfl gA (by decide)
        · exact main "OneForOne$Sheet" 4 24 rfl c2 rfl gB (by decide)
      · cases h
    · cases h
  | invokespecial idx =>
    simp only [zsw, zln, Bool.false_eq_true, false_or] at hz
    subst hz
    rcases st with _ | ⟨cq | cq | cq, st⟩ <;> simp only [zsE, reduceCtorEq] at h
    obtain ⟨h1, h2⟩ := zPl.cons.mp hp
    split at h
    · next hc =>
      obtain ⟨c1, c2, c3, c4⟩ := hc
      cases h
      rw [List.map_cons, show ztr sp ad (.inr (.inr cq)) = Value.ref (ad (cq - 1)) from zrv_cell c2 (by omega)]
      refine W.objInit hx hb hown (hts _ (zw_oi_ok (zoi_some c1))) (hts _ (zw_mi_ok zmi_in.2.2.2.2.2.2.1)) (hts _ (zw_mi_ok zmi_in.2.2.2.2.2.2.2)) rfl (by rw [hml]; exact hl.1) rfl hdg hrf (by rw [zcat_map hXt.1]; show 2 * 0 + _ + 12 ≤ _; omega) ?_
      exact kk ad H locs cells slots (Nat.le_refl _) (fun _ _ => rfl) (by omega) (by omega) hH0 hl h2
    · cases h
  | invokestatic idx =>
    simp only [zsw, zln, Bool.false_eq_true, false_or] at hz
    subst hz
    rcases st with _ | ⟨kq | kq | kq, _ | ⟨jq | jq | jq, _ | ⟨c2q | c2q | c2q, _ | ⟨iq | iq | iq, _ | ⟨c1q | c1q | c1q, st⟩⟩⟩⟩⟩ <;> simp only [zsE, reduceCtorEq] at h
    obtain ⟨h1, h2⟩ := zPl.cons.mp hp
    obtain ⟨h3, h2⟩ := zPl.cons.mp h2
    obtain ⟨h4, h2⟩ := zPl.cons.mp h2
    obtain ⟨h5, h2⟩ := zPl.cons.mp h2
    obtain ⟨h6, h2⟩ := zPl.cons.mp h2
    have h1 : zR kq := h1
    have h3 : zR jq := h3
    have h5 : zR iq := h5
    split at h
    · next hc =>
      obtain ⟨c0, c1, c2, c3, c4, c5, c6, c7, c8, c9, c10, c11, c12⟩ := hc
      cases h
      rw [List.map_cons, List.map_cons, List.map_cons, List.map_cons, List.map_cons, show ztr sp ad (.inr (.inr c1q)) = Value.ref (ad (c1q - 1)) from zrv_cell c1 (by omega), show ztr sp ad (.inr (.inr c2q)) = Value.ref (ad (c2q - 1)) from zrv_cell c3 (by omega)]
      have ng : ∀ w : Int, zR w → 0 ≤ w → ¬ Int32.ofInt w < 0 := by
        intro w hw h0
        rw [← zI0, zR_lt hw zR0]
        omega
      have hnat : nativeFrameWords "java/lang/System" "arraycopy" 5 = 7 := by decide
      refine va_copyi (sp := Int32.ofInt iq) (dp := Int32.ofInt jq) (n := Int32.ofInt kq) (ty := .int) hx hb (by rw [hml]; exact hl.1.symm) hown (hts _ (zw_ac_ok (zac_some c0))) (hts _ (zw_mi_ok zmi_in.2.2.2.1)) (hts _ (zw_mi_ok zmi_in.2.2.2.2.1)) (hts _ (zw_mi_ok zmi_in.2.2.2.2.2.1)) hK hP hD hS (c1q - 1) (c2q - 1) 0 0 (by rw [zwo_get (by omega), zent_num c5 (by decide) (by decide)]) (by rw [zwo_get (by omega), zent_num c6 (by decide) (by decide)]) rfl rfl rfl (ng _ h5 c7) (ng _ h3 c8) (ng _ h1 c9) (by rw [zR_clamp h5, zR_clamp h1]; omega) (by rw [zR_clamp h3, zR_clamp h1]; omega) (fun _ _ => rfl) hrf (by rw [zcat_map hXt.1, hnat]; omega) hdg (fun H1 locs1 a1 a2 a3 => ?_)
      have hset : (zwo cA ad n sq).set (c2q - 1) (ad (c2q - 1), .inl (cA 20, (zsh (c2q - 1)).2, .inl (va_cpy (fun j : Nat => Int32.ofInt (sq (c1q - 1) j)) (fun j : Nat => Int32.ofInt (sq (c2q - 1) j)) (Int32.ofInt iq).toNatClampNeg (Int32.ofInt jq).toNatClampNeg (Int32.ofInt kq).toNatClampNeg))) = zwo cA ad n (zcopy sq (c1q - 1) iq (c2q - 1) jq kq) := by
        refine zwo_set (by omega) ?_ (fun a ha => by unfold zcopy; rw [if_neg ha])
        rw [zent_num c6 (by decide) (by decide)]
        congr 3
        congr 1
        funext j
        rw [zR_clamp h5, zR_clamp h3, zR_clamp h1]
        unfold va_cpy zcopy
        rw [if_pos rfl]
        by_cases q : jq.toNat ≤ j ∧ j < jq.toNat + kq.toNat
        · rw [if_pos q, if_pos (by omega)]
          show Int32.ofInt (sq (c1q - 1) ((iq.toNat + (j - jq.toNat) : Nat) : Int)) = _
          rw [show ((iq.toNat + (j - jq.toNat) : Nat) : Int) = iq + ((j : Int) - jq) from by omega]
        · rw [if_neg q, if_neg (by omega)]
      rw [hset] at a1 a2
      refine kk ad H1 locs1 cells slots (Nat.le_refl _) (fun _ _ => rfl) (by omega) (by omega) ⟨⟨fun a j => ?_, fun a j ha hj => ?_, hn⟩, a1, a2, a3⟩ hl h2
      · unfold zcopy
        by_cases q : a = c2q - 1
        · rw [if_pos q]
          show zR (if _ then _ else _)
          split
          · exact hR _ _
          · exact hR _ _
        · rw [if_neg q]; exact hR _ _
      · have q : a ≠ c2q - 1 := by
          intro q
          subst q
          unfold zrefs at hj
          rw [c6] at hj
          exact absurd hj (by simp)
        unfold zcopy
        rw [if_neg q]
        exact hRf _ _ ha hj
    · cases h
  | _ => simp [zsE] at h
end ZSND
