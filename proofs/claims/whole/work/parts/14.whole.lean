/-! a method's run, walked on the machine -/
section ZSND
variable {p : Program} {l : Launch} {e : Env} {R : Room} {s : State} {m : MethodId} {args : Array Value} {below : List Frame} {meth : Method} {c : Code} {H : Heap} {locs : List Loc} {cells slots : Nat} {Q : State → Prop}
variable {y o : Nat} {ini : Bool} {b : ByteArray} {nL : Nat} {cA dC : Nat → ClassId} {dI : Nat → Nat → Nat} {sp : Nat → Value} {xs : Nat → Int} {L base : Nat} {ad : Nat → Nat}
/-- behind a call -/
theorem zgo {mc ms pc : Nat} {ls : Array Slot} {restq st0 : List Value} {Qa : State → Outcome → State → Prop} {free : Addr → Prop} (hr : va_Run p l e R s m args below meth c H locs cells slots mc ms (F0 m pc ls st0) restq Qa free)
    (kk : ∀ (v : Option Value) (st₀ t : State) (H1 : Heap) (locs1 : List Loc), st₀.heap = H → t.heap = H1 → s.WarmedH t.vm → Qa st₀ (.returned v) t → (∀ q ∈ locs1, q ∈ locs ∨ free q.base) → W p l e R s m args below meth c H1 locs1 (cells + mc) (slots + ms) Q (F0 m (pc + 3) ls (v.toList ++ restq))) : W p l e R s m args below meth c H locs cells slots Q (F0 m pc ls st0) := by
  intro T hT X
  obtain ⟨v, st₀, t, T', L', h0, X', hL, e1, e2, hq, st⟩ := hr T hT X
  obtain ⟨t2, a1, b1⟩ := kk v st₀ t T'.heap (locs ++ L') h0 e1.symm (by rw [← e2]; exact X'.warmed) hq (fun q hq => by
    rcases List.mem_append.mp hq with h | h
    · exact Or.inl h
    · exact Or.inr (hL q h)) T' rfl X'
  exact ⟨t2, st t2 a1, b1⟩
theorem zsplit {st : List AV} {na : Nat} (h : na ≤ st.length) : st = ((st.take na).reverse).reverse ++ st.drop na := by
  rw [List.reverse_reverse, List.take_append_drop]
set_option maxHeartbeats 4000000 in
/-- a call as the machine makes it -/
theorem zcall {d y2 n n1 pc z : Nat} {i : Instr} {ls : Array Slot} {sq s1 : Pl} {r1 : Option AV} {argq restq : List AV} {ex : ZX}
    (C : zCtx p s m args meth c y o ini b nL cA dC dI sp xs L base) (hi : zi y pc = some (i, z)) (hex : zMet l xs L ex d) (hcal : zcal o i = some y2) (hok : zcallok i y2 n argq restq = true) (hlen : argq.length = (zm y2).2.2.2.2.2.2.1) (hcall : ex y2 argq n sq = some (r1, n1, s1))
    (hsz : ls.size = nL) (hpa : zPl n argq) (hH : zHp s cA dC dI base ad n sq H locs) (hf : d + 1 ≤ R.frames) (hlo : 64 * (d + 1) ≤ R.locals) (hcs : cells + (n1 - n) ≤ R.cells ∧ slots + (zsz n1 - zsz n) ≤ R.slots) :
    z = 3 ∧ va_Run p l e R s m args below meth c H locs cells slots (n1 - n) (zsz n1 - zsz n) (F0 m pc ls ((argq.reverse ++ restq).map (ztr sp ad))) (restq.map (ztr sp ad)) (zQc cA dC dI sp base ad n r1 n1 s1 (argq.map (ztr sp ad)).toArray) (zA base) := by
  obtain ⟨hx, hb, hml, hd, hown, hts, hK, hXt, hbs, hin⟩ := C
  obtain ⟨hdg, hz⟩ := hd _ _ _ hi
  obtain ⟨hM, hP, hD, hS⟩ := hH
  have hn := hM.2.2
  unfold zcallok at hok
  simp only [Bool.and_eq_true, decide_eq_true_eq] at hok
  obtain ⟨⟨⟨k1, k2⟩, k3⟩, k4⟩ := hok
  have k3 : ∀ v ∈ argq, zcat v = 1 := fun v hv => of_decide_eq_true (List.all_eq_true.mp k3 v hv)
  have hMt := hex y2 argq n sq r1 n1 s1 k2 hlen k3 hcall cA dC dI sp base ad
  obtain ⟨z1, z2, z3, z4⟩ := zm_all y2 k2
  have hpre : ∀ U : State, U.heap = H → s.WarmedH U.vm → zPc cA dC dI sp xs L base ad n sq argq (argq.map (ztr sp ad)).toArray U := by
    intro U hU hW
    refine ⟨rfl, ?_, hM, by rw [hU]; exact hP, hD, va_K.moved hW.alike hK, ?_, hpa⟩
    · rw [hU]; exact Nat.le_trans hbs hS.1
    · rw [hU]; exact hXt.go hW hS.2.1
  have hst : (argq.reverse ++ restq).map (ztr sp ad) = (argq.map (ztr sp ad)).reverse ++ restq.map (ztr sp ad) := by
    rw [List.map_append, List.map_reverse]
  have hroom : 2 * (F0 m pc ls ((argq.reverse ++ restq).map (ztr sp ad))).monitorRoom + ((restq.map (ztr sp ad)).map fun v => v.category).sum ≤ 8 := by
    rw [zcat_map hXt.1]
    show 2 * 0 + _ ≤ 8
    omega
  have hRl : (zrm d n n1).frames + 1 ≤ R.frames ∧ 8 + ((zm y2).2.2.1 + 11) + (zrm d n n1).locals ≤ R.locals := ⟨hf, by show 8 + _ + 64 * d ≤ _; omega⟩
  have hRv : ∀ (cq : Nat) (As : List AV), argq = .inr (.inr cq) :: As → zrecv y2 n argq = true → ∃ a0 : Nat, ztr sp ad (.inr (.inr cq)) = .ref a0 ∧ ∃ cellB : Cell, H[a0]? = some cellB ∧ cellB.vm.isStatics = false ∧ s.vm.findClass (zc_n (zm y2).2.2.2.2.1) = some cellB.cls := by
    intro cq As ea hrv
    rw [ea] at hrv
    simp only [zrecv, Bool.or_eq_true, Bool.and_eq_true, decide_eq_true_eq] at hrv
    rcases hrv with ⟨⟨g1, g2⟩, g3⟩ | ⟨g1, g2⟩
    · have h9 : (zsh (cq - 1)).1 < 16 := by
        have : ∀ yq, yq < 247 → (zm yq).2.2.2.2.1 < 16 := by decide +kernel
        rw [g3]; exact this y2 k2
      have h9 : (zsh (cq - 1)).1 < 9 := by
        have : ∀ a, a < zsh_L.length → (zsh a).1 < 16 → (zsh a).1 < 9 := by decide +kernel
        rcases Nat.lt_or_ge (cq - 1) zsh_L.length with q | q
        · exact this _ q h9
        · rw [zsh_out q] at h9; exact absurd h9 (by decide)
      refine ⟨ad (cq - 1), zrv_cell g1 (by omega), ?_⟩
      rw [← g3]
      exact va_recv hK hP (zcl_get _ h9) (q0 := cq - 1) (by rw [zwo_get (by omega), zent_obj rfl h9])
    · obtain ⟨-, tq, f1, -, -, -, -, fS, -⟩ := hXt
      have hj : cq - 100000 = 2 ∨ cq - 100000 = 3 := by omega
      obtain ⟨cell, q1, q2, q3, -⟩ := (fS _ hj).1.kept hS.2.1
      refine ⟨tq (cq - 100000), ?_, cell, q1, q2, by rw [g2]; exact q3⟩
      have hcq : cq = 100000 + (cq - 100000) := by omega
      rw [hcq]
      refine (zrv_giv (j := cq - 100000) ad).trans ?_
      rw [show 100000 + (cq - 100000) - 100000 = cq - 100000 from by omega]
      exact f1 _ (by omega)
  have hini : (Cond.initialized (zm y2).1.cls).before args s = true := by rw [z1]; exact hts _ (zw_ini_ok (zm_ini y2 k2))
  have hgi : Cond.initialized (zm y2).1.cls ∈ zgw := by rw [z1]; exact zw_ini_ok (zm_ini y2 k2)
  have fix : CallFix p m c b nL s args zgw (zc_n o) := ⟨hx, hb, hml, hown, hts⟩
  cases i with
  | invokevirtual idx =>
    simp only [zsw, zln, Bool.false_eq_true, false_or] at hz
    refine ⟨hz, ?_⟩
    subst hz
    have hml2 := zml_some hcal
    simp only [zmode, Bool.and_eq_true, Bool.not_eq_true', decide_eq_true_eq] at k4
    obtain ⟨⟨g1, g2⟩, g3⟩ := k4
    obtain ⟨i1, i2⟩ := zm_inst y2 k2 g1
    rw [g1] at z2
    cases argq with
    | nil => simp [zrecv] at g2
    | cons v As =>
      rcases v with v | v | cq
      · simp [zrecv] at g2
      · simp [zrecv] at g2
      · obtain ⟨a0, ea0, hcell⟩ := hRv cq As rfl g2
        rw [hst]
        rw [List.map_cons, ea0] at hst ⊢ hpre
        have hgood : GoodIn zgw (wsV (zc_n o) idx (zc_n (zm y2).2.2.2.2.1) (zm y2).1 (zws y2)) := by
          intro w hw
          unfold wsV at hw
          rcases List.mem_append.mp hw with h | h
          · simp only [List.mem_cons, List.not_mem_nil, or_false] at h
            rcases h with h | h | h | h
            · rw [h]; exact zgood _ (zw_ml_ok hml2)
            · rw [h]; exact zgood _ (zw_inst_ok i1)
            · rw [h]; exact zgood _ (zw_sel_ok (zm_sel y2 k2 g1 g3))
            · rw [h]; exact zgood _ (zw_ini_ok (zm_ini y2 k2))
          · exact zws_good k2 w h
        have hnp : As.length + 1 = (zm y2).2.2.2.2.2.2.1 := by rw [← hlen]; rfl
        exact va_runV (As := As.map (ztr sp ad)) (rest := restq.map (ztr sp ad)) fix hMt
          (cwV (n := As.length) hts hgood rfl rfl rfl ⟨z1, (zm_noMH y2 k2).1, (zm_noMH y2 k2).2, by rw [z2]; congr 1; simp; omega⟩ hRl)
          ⟨zPc_blind, hcell, hpre⟩ rfl (by rw [List.length_map]) hsz (by show _ = _; rw [List.reverse_cons, List.append_assoc]; rfl) (by rw [zcat_map hXt.1]; show 2 * 0 + _ ≤ 8; omega) hdg hcs
  | invokestatic idx =>
    simp only [zsw, zln, Bool.false_eq_true, false_or] at hz
    refine ⟨hz, ?_⟩
    subst hz
    simp only [zmode] at k4
    have i1 := zm_stat y2 k2 k4
    rw [if_pos k4, Nat.sub_zero] at z2
    rw [hst]
    simp only [zcal] at hcal
    split at hcal
    · next y3 h3 =>
      cases hcal
      have hml2 := zml_some h3
      have hgood : GoodIn zgw (va_wsS (zc_n o) idx (zm y2).1 (zws y2)) := by
        intro w hw
        unfold va_wsS at hw
        rcases List.mem_append.mp hw with h | h
        · simp only [List.mem_cons, List.not_mem_nil, or_false] at h
          rcases h with h | h | h
          · rw [h]; exact zgood _ (zw_ml_ok hml2)
          · rw [h]; exact zgood _ (zw_stat_ok i1)
          · rw [h]; exact zgood _ hgi
        · exact zws_good k2 w h
      exact va_runS (As := argq.map (ztr sp ad)) (rest := restq.map (ztr sp ad)) fix hMt
        (va_cwS (n := argq.length) hts hgood rfl rfl rfl ⟨(zm_noMH y2 k2).1, (zm_noMH y2 k2).2, by rw [z2, hlen]⟩ hRl)
        ⟨zPc_blind, hpre⟩ rfl (by rw [List.length_map]) hsz rfl (by rw [zcat_map hXt.1]; show 2 * 0 + _ ≤ 8; omega) hdg hcs
    · have hnl2 := znl_some hcal
      obtain ⟨-, tq, -, -, -, -, -, -, -, -, -, -, -, -, fN, -⟩ := hXt
      exact va_runSN (As := argq.map (ztr sp ad)) (rest := restq.map (ztr sp ad)) fix hMt
        ⟨va_cnB (host := "OneForOne") (n := argq.length) hts (zws_good k2) rfl rfl rfl (fN _ hnl2) hini ⟨(zm_noMH y2 k2).1, (zm_noMH y2 k2).2, by rw [z2, hlen]⟩ hRl, hts _ (zw_stat_ok i1), trivial⟩
        ⟨zPc_blind, hpre⟩ rfl (by rw [List.length_map]) hsz rfl (by rw [← hst]; exact hroom) hdg hcs
  | invokespecial idx =>
    simp only [zsw, zln, Bool.false_eq_true, false_or] at hz
    refine ⟨hz, ?_⟩
    subst hz
    simp only [zmode, Bool.and_eq_true, decide_eq_true_eq] at k4
    obtain ⟨⟨g3, g2⟩, g4⟩ := k4
    have hret := (zm_rt y2 k2).1 g4
    have g1 : (zm y2).2.2.2.2.2.2.2 = false := by
      have : ∀ yq, yq < 247 → (zm yq).1.name = "<init>" → (zm yq).2.2.2.2.2.2.2 = false := by decide +kernel
      exact this y2 k2 g3
    obtain ⟨i1, i2⟩ := zm_inst y2 k2 g1
    rw [g1] at z2
    cases argq with
    | nil => simp [zrecv] at g2
    | cons v As =>
      rcases v with v | v | cq
      · simp [zrecv] at g2
      · simp [zrecv] at g2
      · obtain ⟨a0, ea0, hcell⟩ := hRv cq As rfl g2
        rw [hst]
        rw [List.map_cons, ea0] at hst ⊢ hpre
        have hnp : As.length + 1 = (zm y2).2.2.2.2.2.2.1 := by rw [← hlen]; rfl
        have hw9 : zws y2 = Cond.code (zm y2).1 (zm y2).2.1 (zm y2).2.2.1 none :: zgw := by
          unfold zws zw_code_w
          rw [hret]
        have hpar : (parseMethodDescriptor (zm y2).1.desc).map (fun d => d.parameters.length) = some As.length := by
          rw [z2]; congr 1; simp; omega
        simp only [zcal] at hcal
        split at hcal
        · next y3 h3 =>
          cases hcal
          have hml2 := zml_some h3
          exact va_runI (As := As.map (ztr sp ad)) (rest := restq.map (ztr sp ad)) fix hMt
            (cwI (n := As.length) hts (zws_good k2) hw9 rfl rfl hini (hts _ (zw_ml_ok hml2)) (hts _ (zw_inst_ok i1)) g3 ⟨(zm_noMH y2 k2).1, (zm_noMH y2 k2).2, hpar⟩ hRl)
            ⟨zPc_blind, hpre⟩ rfl (by rw [List.length_map]) hsz (by show _ = _; rw [List.reverse_cons, List.append_assoc]; rfl) (by rw [zcat_map hXt.1]; show 2 * 0 + _ ≤ 8; omega) hdg hcs
        · have hnl2 := znl_some hcal
          obtain ⟨-, tq, -, -, -, -, -, -, -, -, -, -, -, -, fN, -⟩ := id hXt
          exact va_runIN (As := As.map (ztr sp ad)) (rest := restq.map (ztr sp ad)) fix hMt
            ⟨va_cnB (host := "OneForOne") (n := As.length) hts (zws_good k2) hw9 rfl rfl (fN _ hnl2) hini ⟨(zm_noMH y2 k2).1, (zm_noMH y2 k2).2, hpar⟩ hRl, g3, hts _ (zw_inst_ok i1)⟩
            ⟨zPc_blind, hpre⟩ rfl (by rw [List.length_map]) hsz (by show _ = _; rw [List.reverse_cons, List.append_assoc]; rfl) (by rw [zcat_map hXt.1]; show 2 * 0 + _ ≤ 8; omega) hdg hcs
  | _ => simp [zcal] at hcal
end ZSND
