/-! a method's run to its end; every method's contract, by depth -/
section ZSND
variable {p : Program} {l : Launch} {e : Env} {R : Room} {s : State} {m : MethodId} {args : Array Value} {below : List Frame} {meth : Method} {c : Code} {Q : State → Prop}
variable {y o rt : Nat} {ini : Bool} {b : ByteArray} {nL : Nat} {cA dC : Nat → ClassId} {dI : Nat → Nat → Nat} {sp : Nat → Value} {xs : Nat → Int} {L base : Nat}
set_option maxHeartbeats 4000000 in
theorem zrun_ok {d n0 nF : Nat} {sqF : Pl} {rF : Option AV} {ex : ZX} {ad0 : Nat → Nat}
    (C : zCtx p s m args meth c y o ini b nL cA dC dI sp xs L base) (hex : zMet l xs L ex d) (hmo : zMono ex) (hf : d + 1 ≤ R.frames) (hlo : 64 * (d + 1) ≤ R.locals) (hrc : nF - n0 ≤ R.cells) (hrs : zsz nF - zsz n0 ≤ R.slots)
    (kret : ∀ (pc2 : Nat) (i2 : Instr) (z2 : Nat) (ls2 : Array Slot) (H2 : Heap) (locs2 : List Loc) (ad2 : Nat → Nat) (st2 : List AV), zi y pc2 = some (i2, z2) → zret rt i2 st2 = some rF → zHp s cA dC dI base ad2 nF sqF H2 locs2 → (∀ k, k < n0 → ad2 k = ad0 k) → zPl nF st2 → W p l e R s m args below meth c H2 locs2 (nF - n0) (zsz nF - zsz n0) Q (F0 m pc2 ls2 (st2.map (ztr sp ad2)))) :
    ∀ (N : Nat) (pc : Nat) (lv : LVs) (st : List AV) (n : Nat) (sq : Pl) (ls : Array Slot) (H : Heap) (locs : List Loc) (ad : Nat → Nat) (cells slots : Nat), zrun xs L ex y o rt ini N (pc, lv, st, n, sq) = some (rF, nF, sqF) → zLv sp ad n nL lv ls → zPl n st → zHp s cA dC dI base ad n sq H locs → cells = n - n0 → slots = zsz n - zsz n0 → n0 ≤ n → (∀ k, k < n0 → ad k = ad0 k) → W p l e R s m args below meth c H locs cells slots Q (F0 m pc ls (st.map (ztr sp ad))) := by
  intro N
  induction N with
  | zero => intro pc lv st n sq ls H locs ad cells slots h; cases h
  | succ N ih =>
    intro pc lv st n sq ls H locs ad cells slots h hl hp hH hce hsl hn0 hag
    have hmono := zrun_mono hmo _ _ _ _ _ h
    dsimp only at hmono
    have hszm := zsz_mono hn0
    unfold zrun at h
    dsimp only at h
    cases hi : zi y pc with
    | none => rw [hi] at h; cases h
    | some iz =>
      obtain ⟨i, z⟩ := iz
      rw [hi] at h
      dsimp only at h
      cases hr : zret rt i st with
      | some r0 =>
        rw [hr] at h
        dsimp only at h
        cases h
        subst hce
        subst hsl
        exact kret pc i z ls H locs ad st hi hr hH hag hp
      | none =>
        rw [hr] at h
        dsimp only at h
        cases hc : zcal o i with
        | some y2 =>
          rw [hc] at h
          dsimp only at h
          split at h
          · next hok =>
            obtain ⟨hlen, hok⟩ := hok
            cases hcall : ex y2 (st.take (zm y2).2.2.2.2.2.2.1).reverse n sq with
            | none => rw [hcall] at h; cases h
            | some q =>
              obtain ⟨r1, n1, s1⟩ := q
              rw [hcall] at h
              dsimp only at h
              have hn1 := hmo _ _ _ _ _ _ _ hcall
              have hn2 := zrun_mono hmo _ _ _ _ _ h
              dsimp only at hn2
              have hz1 := zsz_mono hn1
              have hz2 := zsz_mono hn2
              have hpt : zPl n (st.take (zm y2).2.2.2.2.2.2.1).reverse := fun v hv => hp v (List.mem_of_mem_take (List.mem_reverse.mp hv))
              obtain ⟨hz3, hrun⟩ := zcall (l := l) (e := e) (R := R) (below := below) (locs := locs) (cells := cells) (slots := slots) C hi hex hc hok (by rw [List.length_reverse, List.length_take]; omega) hcall hl.1 hpt hH hf hlo ⟨by omega, by omega⟩
              rw [← zsplit hlen] at hrun
              refine zgo hrun (fun v st₀ t H1 locs1 h0 ht hW hq hlq => ?_)
              obtain ⟨ad2, a1, a2, a3, a4, a5, a6, a7, a8⟩ := hq
              cases a2
              rw [ht] at a4
              obtain ⟨f1, f2⟩ := a8
              rw [h0] at f1 f2
              rw [ht] at f1 f2
              obtain ⟨hM, hP, hD, hS⟩ := hH
              have hrest : zPl n (st.drop (zm y2).2.2.2.2.2.2.1) := fun v hv => hp v (List.mem_of_mem_drop hv)
              have htr : ∀ v : AV, zok n v → ztr sp ad2 v = ztr sp ad v := by
                intro v hv
                rcases v with v | v | cq
                · rfl
                · rfl
                · have key : zrv sp ad2 cq = zrv sp ad cq := by
                    unfold zrv
                    have hn9 := hM.2.2
                    rcases hv with hv | hv
                    · by_cases h0 : cq = 0
                      · rw [if_pos h0, if_pos h0]
                      · rw [if_neg h0, if_neg h0, if_pos (by omega), if_pos (by omega), a1 _ (by omega)]
                    · rw [if_neg (by omega), if_neg (by omega), if_neg (by omega), if_neg (by omega)]
                  exact key
              have hup : ∀ v : AV, zok n v → zok n1 v := by
                intro v hv
                rcases v with v | v | cq
                · exact hv
                · exact hv
                · rcases hv with hv | hv
                  · exact Or.inl (by omega)
                  · exact Or.inr hv
              have hl2 : zLv sp ad2 n1 nL lv ls := ⟨hl.1, hl.2.1, hl.2.2.1, fun i v hv => by rw [htr v (hl.2.2.2.2 i v hv)]; exact hl.2.2.2.1 i v hv, fun i v hv => hup v (hl.2.2.2.2 i v hv)⟩
              have hp2 : zPl n1 (r1.toList ++ st.drop (zm y2).2.2.2.2.2.2.1) := by
                intro v hv
                rcases List.mem_append.mp hv with h9 | h9
                · exact a6 v h9
                · exact hup v (hrest v h9)
              have hS2 : va_S (zA base) s.heap H1 locs1 := by
                refine ⟨Nat.le_trans hS.1 f1, fun q g1 g2 => ?_, fun q hq => ?_⟩
                · rw [f2 q (Nat.lt_of_lt_of_le g1 hS.1) g2]
                  exact hS.2.1 q g1 g2
                · rcases hlq q hq with h9 | h9
                  · exact hS.2.2 q h9
                  · exact h9
              have k9 := ih (pc + z) lv (r1.toList ++ st.drop (zm y2).2.2.2.2.2.2.1) n1 s1 ls H1 locs1 ad2 (cells + (n1 - n)) (slots + (zsz n1 - zsz n)) h hl2 hp2 ⟨a3, a4, a5, hS2⟩ (by omega) (by omega) (by omega) (fun k hk => by rw [a1 k (by omega)]; exact hag k hk)
              have e9 : (r1.toList ++ st.drop (zm y2).2.2.2.2.2.2.1).map (ztr sp ad2) = (r1.map (ztr sp ad2)).toList ++ (st.drop (zm y2).2.2.2.2.2.2.1).map (ztr sp ad) := by
                rw [List.map_append]
                congr 1
                · cases r1 <;> rfl
                · exact List.map_congr_left (fun v hv => htr v (hrest v hv))
              rw [e9, hz3] at k9
              exact k9
          · cases h
        | none =>
          rw [hc] at h
          dsimp only at h
          cases hs : zstep xs L o ini i z (pc, lv, st, n, sq) with
          | none => rw [hs] at h; cases h
          | some f2 =>
            obtain ⟨pc2, lv2, st2, n2, sq2⟩ := f2
            rw [hs] at h
            dsimp only at h
            have hn2 := zrun_mono hmo _ _ _ _ _ h
            dsimp only at hn2
            have same : n2 = n → sq2 = sq → ∀ ls2, zLv sp ad n nL lv2 ls2 → zPl n st2 → W p l e R s m args below meth c H locs cells slots Q (F0 m pc2 ls2 (st2.map (ztr sp ad))) := by
              intro e1 e2 ls2 hl2 hp2
              subst e1
              subst e2
              exact ih pc2 lv2 st2 n2 sq2 ls2 H locs ad cells slots h hl2 hp2 hH hce hsl hn0 hag
            unfold zstep at hs
            split at hs
            · next r0 h9 => cases hs; exact zsA_ok C hi h9 hl hp same
            · split at hs
              · next r0 h9 => cases hs; exact zsB_ok C hi h9 hl hp same
              · split at hs
                · next r0 h9 => cases hs; exact zsC_ok hH.2.2.2 C hi h9 hl hp same
                · split at hs
                  · next r0 h9 => cases hs; exact zsD_ok C hi h9 hl hp hH same
                  · have hz2 := zsz_mono hn2
                    have hz3 := zsz_mono (zsE_mono hs)
                    have hz4 := zsE_mono hs
                    dsimp only at hz3 hz4
                    refine zsE_ok C hi hs hl hp hH (by omega) (by omega) (by omega) (by omega) (fun ad2 H2 locs2 cells2 slots2 g1 g2 g3 g4 g5 g6 g7 => ?_)
                    exact ih pc2 lv2 st2 n2 sq2 ls H2 locs2 ad2 cells2 slots2 h g6 g7 g5 (by omega) (by omega) (by omega) (fun k hk => by rw [g2 k (by omega)]; exact hag k hk)
end ZSND
theorem zlg_len : ∀ (vs : List Value), (∀ v ∈ vs, v.category ≠ 2) → (lg_sl vs).length = vs.length := by
  intro vs h
  induction vs with
  | nil => rfl
  | cons v vs ih =>
    have h1 := h v List.mem_cons_self
    have h2 := ih (fun w hw => h w (List.mem_cons_of_mem _ hw))
    unfold lg_sl at h2 ⊢
    rw [List.flatMap_cons, if_neg h1, List.length_append, h2]
    simp
    omega
theorem zlv_args : ∀ (vs : List Value) (i j : Nat) (v : Value), (∀ w ∈ vs, w.category ≠ 2) → vs[j]? = some v → (i + j, v) ∈ lv_args i vs := by
  intro vs
  induction vs with
  | nil => intro i j v _ h; simp at h
  | cons w vs ih =>
    intro i j v hc h
    unfold lv_args
    cases j with
    | zero =>
      rw [List.getElem?_cons_zero] at h
      cases h
      exact List.mem_cons_self
    | succ j =>
      rw [List.getElem?_cons_succ] at h
      rw [if_neg (hc w List.mem_cons_self)]
      have h9 := ih (i + 1) j v (fun u hu => hc u (List.mem_cons_of_mem _ hu)) h
      rw [show i + (j + 1) = i + 1 + j from by omega]
      exact List.mem_cons_of_mem _ h9
theorem zentry {sp : Nat → Value} {ad : Nat → Nat} {n nL : Nat} {argq : List AV} {ls : Array Slot} (hsp : ∀ j, sp j = .null ∨ ∃ a, sp j = .ref a) (hc : ∀ v ∈ argq, zcat v = 1) (hp : zPl n argq) (hn : argq.length ≤ nL) (hl : lv_has ls nL (lv_args 0 (argq.map (ztr sp ad)))) : zLv sp ad n nL (argq.map some ++ List.replicate (nL - argq.length) none) ls := by
  obtain ⟨h1, h2, h3⟩ := hl
  have key : ∀ (i : Nat) (v : AV), (argq.map some ++ List.replicate (nL - argq.length) none)[i]? = some (some v) → argq[i]? = some v := by
    intro i v hv
    by_cases q : i < argq.length
    · rw [List.getElem?_append_left (by rw [List.length_map]; exact q), List.getElem?_map] at hv
      cases e : argq[i]? with
      | none => rw [e] at hv; cases hv
      | some w => rw [e] at hv; cases hv; rfl
    · rw [List.getElem?_append_right (by rw [List.length_map]; omega)] at hv
      have h9 := List.mem_of_getElem? hv
      rw [List.mem_replicate] at h9
      cases h9.2
  refine ⟨h1, by rw [List.length_append, List.length_map, List.length_replicate]; omega, h2, fun i v hv => ?_, fun i v hv => hp v (List.mem_of_getElem? (key i v hv))⟩
  have h9 := zlv_args (argq.map (ztr sp ad)) 0 i (ztr sp ad v) (fun w hw => by
    obtain ⟨u, hu, rfl⟩ := List.mem_map.mp hw
    rw [ztr_cat sp ad hsp, hc u hu]
    decide) (by rw [List.getElem?_map, key i v hv]; rfl)
  rw [Nat.zero_add] at h9
  exact h3 _ h9
theorem zret_cases {rt : Nat} {i : Instr} {st : List AV} {r : Option AV} (h : zret rt i st = some r) : (i = .ireturn ∧ ∃ v, st = [.inl v] ∧ r = some (.inl v) ∧ (rt = 1 ∨ (rt = 2 ∧ (v = 0 ∨ v = 1)) ∨ (rt = 3 ∧ 0 ≤ v ∧ v < 65536) ∨ (rt = 4 ∧ -128 ≤ v ∧ v < 128))) ∨ (i = .lreturn ∧ rt = 5 ∧ ∃ v, st = [.inr (.inl v)] ∧ r = some (.inr (.inl v))) ∨ (i = .areturn ∧ rt = 6 ∧ ∃ cq, st = [.inr (.inr cq)] ∧ r = some (.inr (.inr cq)) ∧ cq < 100000) ∨ (i = .return_ ∧ rt = 0 ∧ st = [] ∧ r = none) := by
  unfold zret at h
  split at h
  · split at h
    · next hc => cases h; exact Or.inl ⟨rfl, _, rfl, rfl, hc⟩
    · cases h
  · split at h
    · next hc => cases h; exact Or.inr (Or.inl ⟨rfl, hc, _, rfl, rfl⟩)
    · cases h
  · split at h
    · next hc => cases h; exact Or.inr (Or.inr (Or.inl ⟨rfl, hc.1, _, rfl, rfl, hc.2⟩))
    · cases h
  · split at h
    · next hc => cases h; exact Or.inr (Or.inr (Or.inr ⟨rfl, hc, rfl, rfl⟩))
    · cases h
  · cases h
theorem zret_ty {rt : Nat} {v : Int} (hR : zR v) (h : rt = 1 ∨ (rt = 2 ∧ (v = 0 ∨ v = 1)) ∨ (rt = 3 ∧ 0 ≤ v ∧ v < 65536) ∨ (rt = 4 ∧ -128 ≤ v ∧ v < 128)) : (rt = 1 ∧ narrow .int (.int (Int32.ofInt v)) = .int (Int32.ofInt v)) ∨ (rt = 2 ∧ narrow .boolean (.int (Int32.ofInt v)) = .int (Int32.ofInt v)) ∨ (rt = 3 ∧ narrow .char (.int (Int32.ofInt v)) = .int (Int32.ofInt v)) ∨ (rt = 4 ∧ narrow .byte (.int (Int32.ofInt v)) = .int (Int32.ofInt v)) := by
  rcases h with h | ⟨h, h1⟩ | ⟨h, h1, h2⟩ | ⟨h, h1, h2⟩
  · exact Or.inl ⟨h, rfl⟩
  · refine Or.inr (Or.inl ⟨h, ?_⟩)
    rcases h1 with rfl | rfl <;> decide
  · refine Or.inr (Or.inr (Or.inl ⟨h, ?_⟩))
    have e1 : Int32.ofInt v = nI v.toNat := by
      unfold nI
      rw [← zR_ofNat, Int.toNat_of_nonneg h1]
    rw [e1]
    exact (pk_charN (by omega)).1
  · refine Or.inr (Or.inr (Or.inr ⟨h, ?_⟩))
    have e1 : (Int32.ofInt v).toInt8.toInt32 = Int32.ofInt v := by
      apply Int32.toInt.inj
      rw [Int32.toInt8_ofInt, Int8.toInt_toInt32, Int8.toInt_ofInt_of_le (by omega) (by omega), zR_toInt hR]
    rw [← e1]
    exact pk_nb _
set_option maxHeartbeats 4000000 in
/-- every method keeps its contract one call deeper than its callees do -/
theorem zmet_succ {l : Launch} {xs : Nat → Int} {L N d : Nat} (hex : zMet l xs L (zex xs L N d) d) : zMet l xs L (zex xs L N (d + 1)) (d + 1) := by
  intro yq argq n sq r n2 sq2 hy hlen hcat h cA dC dI sp base ad
  obtain ⟨z1, z2, z3, z4⟩ := zm_all yq hy
  obtain ⟨t0, t1, t2, t3, t4, t5, t6⟩ := zm_rt yq hy
  refine va_MetF (cc := (zm yq).2.1) (maxL := (zm yq).2.2.1) (ret := (zm yq).2.2.2.1) (zm_pf yq hy) rfl ?_
  intro p e s m args below meth c s₁ B hml hv
  obtain ⟨rfl, hbs, hM, hP, hD, hK, hXt, hargs⟩ := hv
  have hx := B.exec
  have hb := B.bytes
  have hr := B.returns
  have hlocks := B.notSynchronized
  have hts0 := atoms_spec (ws := zws yq) B.pre
  have hts : ∀ w ∈ zgw, w.before (argq.map (ztr sp ad)).toArray s = true := fun w hw => hts0 w (List.mem_cons_of_mem _ hw)
  have hown : s.vm.findClass (zc_n (zm yq).2.2.2.2.1) = some m.cls := by rw [← z1]; exact findClass_of_methodNamed B.named
  have hin : meth.name = (zm yq).1.name := (name_of_methodNamed B.named B.method).1
  have C : zCtx p s m (argq.map (ztr sp ad)).toArray meth c yq (zm yq).2.2.2.2.1 (decide ((zm yq).1.name = "<init>")) (zm yq).2.1 (zm yq).2.2.1 cA dC dI sp xs L base :=
    ⟨hx, hb, hml, fun pc i z hi => zi_dec (zi_okm yq hy) hi, hown, hts, hK, hXt, hbs, fun q => hin.trans (of_decide_eq_true q)⟩
  have hnc : ∀ v ∈ argq.map (ztr sp ad), v.category ≠ 2 := by
    intro w hw
    obtain ⟨u, hu, rfl⟩ := List.mem_map.mp hw
    rw [ztr_cat sp ad hXt.1, hcat u hu]
    decide
  have hl := lv_entry (argq.map (ztr sp ad)) (n := (zm yq).2.2.1) (by rw [zlg_len _ hnc, List.length_map]; omega)
  rw [lg_entry_eq]
  generalize (lg_sl (argq.map (ztr sp ad)) ++ List.replicate ((zm yq).2.2.1 - (lg_sl (argq.map (ztr sp ad))).length) Slot.unset).toArray = ls at hl ⊢
  have hlv : zLv sp ad n (zm yq).2.2.1 (argq.map some ++ List.replicate ((zm yq).2.2.1 - argq.length) none) ls := zentry hXt.1 hcat hargs (by omega) hl
  have h9 : zrun xs L (zex xs L N d) yq (zm yq).2.2.2.2.1 (zm yq).2.2.2.2.2.1 (decide ((zm yq).1.name = "<init>")) N (0, argq.map some ++ List.replicate ((zm yq).2.2.1 - argq.length) none, [], n, sq) = some (r, n2, sq2) := h
  have hn2 := zrun_mono (zex_mono d) _ _ _ _ _ h9
  dsimp only at hn2
  refine zrun_ok (d := d) (n0 := n) (ad0 := ad) (R := zrm (d + 1) n n2) C hex (zex_mono d) (Nat.le_refl _) (Nat.le_refl _) (Nat.le_refl _) (Nat.le_refl _) ?_ N 0 _ [] n sq ls s.heap [] ad 0 0 h9 hlv (fun v hv => by cases hv) ⟨hM, hP, hD, va_S.rf⟩ (by omega) (by omega) (Nat.le_refl _) (fun _ _ => rfl)
  intro pc2 i2 z2 ls2 H2 locs2 ad2 st2 hi2 hrt2 hH2 hag hp2
  obtain ⟨hdg, hz⟩ := zi_dec (zi_okm yq hy) hi2
  obtain ⟨hM2, hP2, hD2, hS2⟩ := hH2
  have post : ∀ (t : State) (rv : Option Value), t.heap = H2 → rv = r.map (ztr sp ad2) → zPl n2 r.toList → zQc cA dC dI sp base ad n r n2 sq2 (argq.map (ztr sp ad)).toArray s (.returned rv) t := by
    intro t rv ht hrv hpr
    exact ⟨ad2, hag, by rw [hrv], hM2, by rw [ht]; exact hP2, hD2, hpr, hn2, hS2.F ht⟩
  rcases zret_cases hrt2 with ⟨rfl, v, rfl, rfl, hc⟩ | ⟨rfl, hc, v, rfl, rfl⟩ | ⟨rfl, hc, cq, rfl, rfl, hcq⟩ | ⟨rfl, hc, rfl, rfl⟩
  · simp only [zsw, zln, Bool.false_eq_true, false_or] at hz
    subst hz
    have hv : zok n2 (.inl v) := hp2 _ List.mem_cons_self
    have hpr : zPl n2 (some (.inl v) : Option AV).toList := fun w hw => hp2 w hw
    rcases zret_ty hv hc with ⟨e1, e2⟩ | ⟨e1, e2⟩ | ⟨e1, e2⟩ | ⟨e1, e2⟩
    · exact W.zret (v := Int32.ofInt v) hx hb (by rw [hr]; exact t1 e1) e2 (fun t ht hW => post t _ ht rfl hpr) hS2.2.2 hdg hlocks
    · exact W.zret (v := Int32.ofInt v) hx hb (by rw [hr]; exact t2 e1) e2 (fun t ht hW => post t _ ht rfl hpr) hS2.2.2 hdg hlocks
    · exact W.zret (v := Int32.ofInt v) hx hb (by rw [hr]; exact t3 e1) e2 (fun t ht hW => post t _ ht rfl hpr) hS2.2.2 hdg hlocks
    · exact W.zret (v := Int32.ofInt v) hx hb (by rw [hr]; exact t4 e1) e2 (fun t ht hW => post t _ ht rfl hpr) hS2.2.2 hdg hlocks
  · simp only [zsw, zln, Bool.false_eq_true, false_or] at hz
    subst hz
    exact W.lret (v := Int64.ofInt v) hx hb (by rw [hr]; exact t5 hc) (fun t ht hW => post t _ ht rfl (fun w hw => hp2 w hw)) hS2.2.2 hdg hlocks
  · simp only [zsw, zln, Bool.false_eq_true, false_or] at hz
    subst hz
    have hcv : zrv sp ad2 cq = .null ∨ ∃ a, zrv sp ad2 cq = .ref a := by
      unfold zrv
      by_cases h0 : cq = 0
      · rw [if_pos h0]; exact Or.inl rfl
      · rw [if_neg h0, if_pos hcq]; exact Or.inr ⟨_, rfl⟩
    exact W.aret (v := zrv sp ad2 cq) hx hb (by rw [hr]; exact t6 hc) (Or.inl ⟨_, rfl⟩) hcv (fun t ht hW => post t _ ht rfl (fun w hw => hp2 w hw)) hS2.2.2 hdg hlocks
  · simp only [zsw, zln, Bool.false_eq_true, false_or] at hz
    subst hz
    exact W.vret hx hb (by rw [hr]; exact t0 hc) (fun t ht hW => post t _ ht rfl (fun w hw => by cases hw)) hS2.2.2 hdg hlocks
theorem zmet_all (l : Launch) (xs : Nat → Int) (L N : Nat) : ∀ d, zMet l xs L (zex xs L N d) d := by
  intro d
  induction d with
  | zero =>
    intro yq argq n sq r n2 sq2 hy hlen hcat h
    cases h
  | succ d ih => exact zmet_succ ih
