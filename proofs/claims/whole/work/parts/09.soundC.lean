/-! the machine does what the walker does: branches, constants of the pool, statics, reading cells. Written by wip/whole/gen/gen09.py -/
section ZSND
variable {p : Program} {l : Launch} {e : Env} {R : Room} {s : State} {m : MethodId} {args : Array Value} {below : List Frame} {meth : Method} {c : Code} {H : Heap} {locs : List Loc} {cells slots : Nat} {Q : State → Prop}
variable {y o : Nat} {ini : Bool} {b : ByteArray} {nL : Nat} {cA dC : Nat → ClassId} {dI : Nat → Nat → Nat} {sp : Nat → Value} {xs : Nat → Int} {L base : Nat} {ad : Nat → Nat}

theorem zf_ck {oq idx : Nat} {eq0 : Nat × Nat × Int} (h : zw_ck.find? (fun e => e.1 == oq && e.2.1 == idx) = some eq0) : eq0 ∈ zw_ck ∧ eq0.1 = oq ∧ eq0.2.1 = idx := by
  have h1 := List.find?_some h
  simp only [Bool.and_eq_true, beq_iff_eq] at h1
  exact ⟨List.mem_of_find?_eq_some h, h1.1, h1.2⟩
theorem zf_ck2 {oq idx : Nat} {eq0 : Nat × Nat × Int} (h : zw_cq.find? (fun e => e.1 == oq && e.2.1 == idx) = some eq0) : eq0 ∈ zw_cq ∧ eq0.1 = oq ∧ eq0.2.1 = idx := by
  have h1 := List.find?_some h
  simp only [Bool.and_eq_true, beq_iff_eq] at h1
  exact ⟨List.mem_of_find?_eq_some h, h1.1, h1.2⟩
theorem zck_R : ∀ eq0 ∈ zw_ck, -2147483648 ≤ eq0.2.2 ∧ eq0.2.2 < 2147483648 := by decide +kernel
theorem zcq_R : ∀ eq0 ∈ zw_cq, -9223372036854775808 ≤ eq0.2.2 ∧ eq0.2.2 < 9223372036854775808 := by decide +kernel
theorem zldc_int {oq idx : Nat} {v : Int} (h : zldc oq idx = some (.inl v)) : (oq, idx, v) ∈ zw_ck := by
  unfold zldc at h
  split at h
  · cases h
  · split at h
    · cases h
    · split at h
      · next eq0 h0 =>
        obtain ⟨h1, h2, h3⟩ := zf_ck h0
        cases h
        obtain ⟨a1, a2, a3⟩ := eq0
        dsimp only at h2 h3
        rw [← h2, ← h3]
        exact h1
      · cases h
theorem zldc2_long {oq idx : Nat} {v : AV} (h : zldc2 oq idx = some v) : ∃ w : Int, v = .inr (.inl w) ∧ (oq, idx, w) ∈ zw_cq := by
  unfold zldc2 at h
  split at h
  · next eq0 h0 =>
    obtain ⟨h1, h2, h3⟩ := zf_ck2 h0
    cases h
    obtain ⟨a1, a2, a3⟩ := eq0
    dsimp only at h2 h3
    rw [← h2, ← h3]
    exact ⟨_, rfl, h1⟩
  · cases h
theorem zldc_ref {oq idx cq : Nat} (h : zldc oq idx = some (.inr (.inr cq))) : (oq = 7 ∧ idx = 42 ∧ cq = 100002) ∨ (oq = 2 ∧ idx = 120 ∧ cq = 100003) := by
  unfold zldc at h
  split at h
  · next hc => cases h; exact Or.inl ⟨hc.1, hc.2, rfl⟩
  · split at h
    · next hc => cases h; exact Or.inr ⟨hc.1, hc.2, rfl⟩
    · split at h
      · cases h
      · cases h
theorem zldc_nol {oq idx : Nat} {w : Int} (h : zldc oq idx = some (.inr (.inl w))) : False := by
  unfold zldc at h
  split at h
  · cases h
  · split at h
    · cases h
    · split at h
      · cases h
      · cases h
theorem zgs_some {oq idx : Nat} {v : AV} (h : zgs oq idx = some v) : (oq = 7 ∧ idx = 315 ∧ v = .inr (.inr 100000)) ∨ (oq = 0 ∧ idx = 69 ∧ v = .inr (.inr 100001)) ∨ (oq = 3 ∧ idx = 123 ∧ v = .inr (.inr 100001)) ∨ (oq = 9 ∧ idx = 38 ∧ v = .inl 1) ∨ (oq = 9 ∧ idx = 1053 ∧ v = .inr (.inr 100007)) := by
  unfold zgs at h
  split at h
  · next hc => cases h; exact Or.inl ⟨hc.1, hc.2, rfl⟩
  · split at h
    · next hc =>
      cases h
      rcases hc with hc | hc
      · exact Or.inr (Or.inl ⟨hc.1, hc.2, rfl⟩)
      · exact Or.inr (Or.inr (Or.inl ⟨hc.1, hc.2, rfl⟩))
    · split at h
      · next hc => cases h; exact Or.inr (Or.inr (Or.inr (Or.inl ⟨hc.1, hc.2, rfl⟩)))
      · split at h
        · next hc => cases h; exact Or.inr (Or.inr (Or.inr (Or.inr ⟨hc.1, hc.2, rfl⟩)))
        · cases h
theorem zsf_link {eq0 : Nat × Nat × String × String × String} (hts : ∀ w ∈ zgw, w.before args s = true) (h : eq0 ∈ zw_sf) : (Cond.fieldLink (zc_n eq0.1) eq0.2.1 eq0.2.2.1 eq0.2.2.2.1 eq0.2.2.2.2).before args s = true := hts _ (zw_sf_ok h)
theorem zrv_giv {j : Nat} (ad : Nat → Nat) : zrv sp ad (100000 + j) = sp j := by
  unfold zrv
  rw [if_neg (by omega), if_neg (by omega), show 100000 + j - 100000 = j from by omega]
set_option maxHeartbeats 4000000 in
theorem zsC_ok (hS9 : va_S (zA base) s.heap H locs) {i : Instr} {z pc pc2 : Nat} {lv lv2 : LVs} {st st2 : List AV} {n n2 : Nat} {sq sq2 : Pl} {ls : Array Slot}
    (C : zCtx p s m args meth c y o ini b nL cA dC dI sp xs L base) (hi : zi y pc = some (i, z)) (h : zsC o ini i z (pc, lv, st, n, sq) = some (pc2, lv2, st2, n2, sq2)) (hl : zLv sp ad n nL lv ls) (hp : zPl n st)
    (kk : n2 = n → sq2 = sq → ∀ ls2, zLv sp ad n nL lv2 ls2 → zPl n st2 → W p l e R s m args below meth c H locs cells slots Q (F0 m pc2 ls2 (st2.map (ztr sp ad)))) : W p l e R s m args below meth c H locs cells slots Q (F0 m pc ls (st.map (ztr sp ad))) := by
  obtain ⟨hx, hb, hml, hd, hown, hts, hK, hXt, hbs, hin⟩ := C
  obtain ⟨hdg, hz⟩ := hd _ _ _ hi
  have hsp := hXt.1
  cases i with
  | goto d =>
    simp only [zsw, zln, Bool.false_eq_true, false_or] at hz
    subst hz
    simp only [zsC] at h
    split at h
    · next qq hq =>
      cases h
      refine lv_goto hx hb hdg (zbr_some hq) ?_
      exact kk rfl rfl ls hl hp
    · cases h
  | ifCond cq d =>
    simp only [zsw, zln, Bool.false_eq_true, false_or] at hz
    subst hz
    rcases st with _ | ⟨x | x | x, st⟩ <;> simp only [zsC, reduceCtorEq] at h
    split at h
    · next qq hq =>
      cases h
      obtain ⟨hxx, h2⟩ := zPl.cons.mp hp
      have hy := zR0
      have k9 := fun hq2 : zPl n _ => kk rfl rfl ls hl hq2
      cases cq with
      | eq =>
        have hw := zR_eq hxx hy
        rw [zI0] at hw
        refine lv_if_eq hx hb hdg (zbr_some hq) (fun hc => ?_) (fun hc => ?_)
        · have e9 : zcp .eq x 0 = true := decide_eq_true (hw.mp hc)
          rw [if_pos e9] at k9
          exact k9 h2
        · have e9 : ¬ zcp .eq x 0 = true := fun w9 => (fun w => hc (hw.mpr w)) (of_decide_eq_true w9)
          rw [if_neg e9] at k9
          exact k9 h2
      | ne =>
        have hw := zR_eq hxx hy
        rw [zI0] at hw
        refine lv_if_ne hx hb hdg (zbr_some hq) (fun hc => ?_) (fun hc => ?_)
        · have e9 : zcp .ne x 0 = true := decide_eq_true (fun w => hc (hw.mpr w))
          rw [if_pos e9] at k9
          exact k9 h2
        · have e9 : ¬ zcp .ne x 0 = true := fun w9 => (fun w => w (hw.mp hc)) (of_decide_eq_true w9)
          rw [if_neg e9] at k9
          exact k9 h2
      | lt =>
        have hw := zR_lt hxx hy
        rw [zI0] at hw
        refine lv_if_lt hx hb hdg (zbr_some hq) (fun hc => ?_) (fun hc => ?_)
        · have e9 : zcp .lt x 0 = true := decide_eq_true (hw.mp hc)
          rw [if_pos e9] at k9
          exact k9 h2
        · have e9 : ¬ zcp .lt x 0 = true := fun w9 => (fun w => hc (hw.mpr w)) (of_decide_eq_true w9)
          rw [if_neg e9] at k9
          exact k9 h2
      | ge =>
        have hw := zR_le hy hxx
        rw [zI0] at hw
        refine lv_if_ge hx hb hdg (zbr_some hq) (fun hc => ?_) (fun hc => ?_)
        · have e9 : zcp .ge x 0 = true := decide_eq_true (hw.mp hc)
          rw [if_pos e9] at k9
          exact k9 h2
        · have e9 : ¬ zcp .ge x 0 = true := fun w9 => (fun w => hc (hw.mpr w)) (of_decide_eq_true w9)
          rw [if_neg e9] at k9
          exact k9 h2
      | gt =>
        have hw := zR_lt hy hxx
        rw [zI0] at hw
        refine lv_if_gt hx hb hdg (zbr_some hq) (fun hc => ?_) (fun hc => ?_)
        · have e9 : zcp .gt x 0 = true := decide_eq_true (hw.mp hc)
          rw [if_pos e9] at k9
          exact k9 h2
        · have e9 : ¬ zcp .gt x 0 = true := fun w9 => (fun w => hc (hw.mpr w)) (of_decide_eq_true w9)
          rw [if_neg e9] at k9
          exact k9 h2
      | le =>
        have hw := zR_le hxx hy
        rw [zI0] at hw
        refine lv_if_le hx hb hdg (zbr_some hq) (fun hc => ?_) (fun hc => ?_)
        · have e9 : zcp .le x 0 = true := decide_eq_true (hw.mp hc)
          rw [if_pos e9] at k9
          exact k9 h2
        · have e9 : ¬ zcp .le x 0 = true := fun w9 => (fun w => hc (hw.mpr w)) (of_decide_eq_true w9)
          rw [if_neg e9] at k9
          exact k9 h2
    · cases h
  | if_icmp cq d =>
    simp only [zsw, zln, Bool.false_eq_true, false_or] at hz
    subst hz
    rcases st with _ | ⟨y | y | y, _ | ⟨x | x | x, st⟩⟩ <;> simp only [zsC, reduceCtorEq] at h
    split at h
    · next qq hq =>
      cases h
      obtain ⟨hy, h2⟩ := zPl.cons.mp hp
      obtain ⟨hxx, h2⟩ := zPl.cons.mp h2
      have k9 := fun hq2 : zPl n _ => kk rfl rfl ls hl hq2
      cases cq with
      | eq =>
        have hw := zR_eq hxx hy
        refine lv_icmp_eq hx hb hdg (zbr_some hq) (fun hc => ?_) (fun hc => ?_)
        · have e9 : zcp .eq x y = true := decide_eq_true (hw.mp hc)
          rw [if_pos e9] at k9
          exact k9 h2
        · have e9 : ¬ zcp .eq x y = true := fun w9 => (fun w => hc (hw.mpr w)) (of_decide_eq_true w9)
          rw [if_neg e9] at k9
          exact k9 h2
      | ne =>
        have hw := zR_eq hxx hy
        refine lv_icmp_ne hx hb hdg (zbr_some hq) (fun hc => ?_) (fun hc => ?_)
        · have e9 : zcp .ne x y = true := decide_eq_true (fun w => hc (hw.mpr w))
          rw [if_pos e9] at k9
          exact k9 h2
        · have e9 : ¬ zcp .ne x y = true := fun w9 => (fun w => w (hw.mp hc)) (of_decide_eq_true w9)
          rw [if_neg e9] at k9
          exact k9 h2
      | lt =>
        have hw := zR_lt hxx hy
        refine lv_icmp_lt hx hb hdg (zbr_some hq) (fun hc => ?_) (fun hc => ?_)
        · have e9 : zcp .lt x y = true := decide_eq_true (hw.mp hc)
          rw [if_pos e9] at k9
          exact k9 h2
        · have e9 : ¬ zcp .lt x y = true := fun w9 => (fun w => hc (hw.mpr w)) (of_decide_eq_true w9)
          rw [if_neg e9] at k9
          exact k9 h2
      | ge =>
        have hw := zR_le hy hxx
        refine lv_icmp_ge hx hb hdg (zbr_some hq) (fun hc => ?_) (fun hc => ?_)
        · have e9 : zcp .ge x y = true := decide_eq_true (hw.mp hc)
          rw [if_pos e9] at k9
          exact k9 h2
        · have e9 : ¬ zcp .ge x y = true := fun w9 => (fun w => hc (hw.mpr w)) (of_decide_eq_true w9)
          rw [if_neg e9] at k9
          exact k9 h2
      | gt =>
        have hw := zR_lt hy hxx
        refine lv_icmp_gt hx hb hdg (zbr_some hq) (fun hc => ?_) (fun hc => ?_)
        · have e9 : zcp .gt x y = true := decide_eq_true (hw.mp hc)
          rw [if_pos e9] at k9
          exact k9 h2
        · have e9 : ¬ zcp .gt x y = true := fun w9 => (fun w => hc (hw.mpr w)) (of_decide_eq_true w9)
          rw [if_neg e9] at k9
          exact k9 h2
      | le =>
        have hw := zR_le hxx hy
        refine lv_icmp_le hx hb hdg (zbr_some hq) (fun hc => ?_) (fun hc => ?_)
        · have e9 : zcp .le x y = true := decide_eq_true (hw.mp hc)
          rw [if_pos e9] at k9
          exact k9 h2
        · have e9 : ¬ zcp .le x y = true := fun w9 => (fun w => hc (hw.mpr w)) (of_decide_eq_true w9)
          rw [if_neg e9] at k9
          exact k9 h2
    · cases h
  | tableswitch d lo hi offs =>
    clear hz
    rcases st with _ | ⟨x | x | x, st⟩ <;> simp only [zsC, reduceCtorEq] at h
    obtain ⟨hxx, h2⟩ := zPl.cons.mp hp
    have hv : (Int32.ofInt x).toInt = x := zR_toInt hxx
    split at h
    · next hc =>
      split at h
      · next qq hq =>
        cases h
        refine lv_tableOut hx hb hdg (by rw [hv]; exact hc) (zbr_some hq) ?_
        exact kk rfl rfl ls hl h2
      · cases h
    · next hc =>
      split at h
      · next off ho =>
        split at h
        · next qq hq =>
          cases h
          refine lv_tableIn hx hb hdg (by rw [hv]; exact fun w => hc (Or.inl w)) (by rw [hv]; exact fun w => hc (Or.inr w)) (by rw [hv]; exact ho) (zbr_some hq) ?_
          exact kk rfl rfl ls hl h2
        · cases h
      · cases h
  | lookupswitch d ps =>
    clear hz
    rcases st with _ | ⟨x | x | x, st⟩ <;> simp only [zsC, reduceCtorEq] at h
    obtain ⟨hxx, h2⟩ := zPl.cons.mp hp
    have hv : (Int32.ofInt x).toInt = x := zR_toInt hxx
    split at h
    · next hc =>
      split at h
      · next qq hq =>
        cases h
        refine lv_lookup hx hb hdg hc (by rw [hv]) (zbr_some hq) ?_
        exact kk rfl rfl ls hl h2
      · cases h
    · cases h
  | ldc idx =>
    simp only [zsw, zln, Bool.false_eq_true, false_or] at hz
    subst hz
    simp only [zsC] at h
    split at h
    · next v hv =>
      cases h
      rcases v with v | v | v
      · have hm := zldc_int hv
        refine lv_ldc (v := Int32.ofInt v) hx hb hown (hts _ (zw_ck_ok hm)) hdg ?_
        exact kk rfl rfl ls hl (zPl.cons.mpr ⟨zck_R _ hm, hp⟩)
      · exact absurd (zldc_nol hv) id
      · obtain ⟨-, tq, g1, -, -, -, -, -, -, -, -, -, g11, g12, -⟩ := hXt
        rcases zldc_ref hv with ⟨r1, r2, r3⟩ | ⟨r1, r2, r3⟩
        · subst r1; subst r2; subst r3
          refine va_ldcS hx hb hown g11 hdg ?_
          have k9 := kk rfl rfl ls hl (zPl.cons.mpr ⟨Or.inr (by decide), hp⟩)
          rw [List.map_cons] at k9
          rw [show ztr sp ad (.inr (.inr 100002)) = Value.ref (tq 2) from (zrv_giv (j := 2) ad).trans (g1 2 (by decide))] at k9
          exact k9
        · subst r1; subst r2; subst r3
          refine va_ldcS hx hb hown g12 hdg ?_
          have k9 := kk rfl rfl ls hl (zPl.cons.mpr ⟨Or.inr (by decide), hp⟩)
          rw [List.map_cons] at k9
          rw [show ztr sp ad (.inr (.inr 100003)) = Value.ref (tq 3) from (zrv_giv (j := 3) ad).trans (g1 3 (by decide))] at k9
          exact k9
    · cases h
  | ldc_w idx =>
    simp only [zsw, zln, Bool.false_eq_true, false_or] at hz
    subst hz
    simp only [zsC] at h
    split at h
    · next v hv =>
      cases h
      have hm := zldc_int hv
      refine lv_ldcw (v := Int32.ofInt v) hx hb hown (hts _ (zw_ck_ok hm)) hdg ?_
      exact kk rfl rfl ls hl (zPl.cons.mpr ⟨zck_R _ hm, hp⟩)
    · cases h
  | ldc2_w idx =>
    simp only [zsw, zln, Bool.false_eq_true, false_or] at hz
    subst hz
    simp only [zsC] at h
    split at h
    · next v hv =>
      cases h
      obtain ⟨w, rfl, hm⟩ := zldc2_long hv
      refine lv_ldc2 (v := Int64.ofInt w) hx hb hown (hts _ (zw_cq_ok hm)) hdg ?_
      exact kk rfl rfl ls hl (zPl.cons.mpr ⟨zcq_R _ hm, hp⟩)
    · cases h
  | getstatic idx =>
    simp only [zsw, zln, Bool.false_eq_true, false_or] at hz
    subst hz
    simp only [zsC] at h
    split at h
    · next v hv =>
      cases h
      obtain ⟨-, tq, g1, -, -, -, -, -, g7, g8, g9, g10, -⟩ := hXt
      rcases zgs_some hv with ⟨r1, r2, r3⟩ | ⟨r1, r2, r3⟩ | ⟨r1, r2, r3⟩ | ⟨r1, r2, r3⟩ | ⟨r1, r2, r3⟩
      · subst r1; subst r2; subst r3
        refine va_gets hx hb g7 hS9 hown (zsf_link (eq0 := (7, 315, "OneForOne", "KIND_ABOVE", "[I")) hts (by decide +kernel)) (fun _ h9 => h9) hdg ?_
        have k9 := kk rfl rfl ls hl (zPl.cons.mpr ⟨Or.inr (by decide), hp⟩)
        rw [List.map_cons, show ztr sp ad (.inr (.inr 100000)) = sp 0 from zrv_giv (j := 0) ad] at k9
        exact k9
      · subst r1; subst r2; subst r3
        refine va_gets hx hb g8 hS9 hown (zsf_link (eq0 := (0, 69, "OneForOne$Lake", "STEP", "[I")) hts (by decide +kernel)) (fun _ h9 => h9) hdg ?_
        have k9 := kk rfl rfl ls hl (zPl.cons.mpr ⟨Or.inr (by decide), hp⟩)
        rw [List.map_cons, show ztr sp ad (.inr (.inr 100001)) = sp 1 from zrv_giv (j := 1) ad] at k9
        exact k9
      · subst r1; subst r2; subst r3
        refine va_gets hx hb g8 hS9 hown (zsf_link (eq0 := (3, 123, "OneForOne$Lake", "STEP", "[I")) hts (by decide +kernel)) (fun _ h9 => h9) hdg ?_
        have k9 := kk rfl rfl ls hl (zPl.cons.mpr ⟨Or.inr (by decide), hp⟩)
        rw [List.map_cons, show ztr sp ad (.inr (.inr 100001)) = sp 1 from zrv_giv (j := 1) ad] at k9
        exact k9
      · subst r1; subst r2; subst r3
        refine va_gets hx hb g9 hS9 hown (zsf_link (eq0 := (9, 38, "java/lang/String", "COMPACT_STRINGS", "Z")) hts (by decide +kernel)) (fun _ h9 => h9) hdg ?_
        exact kk rfl rfl ls hl (zPl.cons.mpr ⟨⟨by decide, by decide⟩, hp⟩)
      · subst r1; subst r2; subst r3
        refine va_gets hx hb g10 hS9 hown (zsf_link (eq0 := (9, 1053, "jdk/internal/util/Preconditions", "SIOOBE_FORMATTER", "Ljava/util/function/BiFunction;")) hts (by decide +kernel)) (fun _ h9 => h9) hdg ?_
        have k9 := kk rfl rfl ls hl (zPl.cons.mpr ⟨Or.inr (by decide), hp⟩)
        rw [List.map_cons, show ztr sp ad (.inr (.inr 100007)) = sp 7 from zrv_giv (j := 7) ad] at k9
        exact k9
    · cases h
  | _ => simp [zsC] at h
end ZSND
