/-! a whole method: every contract at once, by the depth of the calls -/
theorem zm_all : ∀ yq, yq < 247 → (zm yq).1.cls = zc_n (zm yq).2.2.2.2.1 ∧ (parseMethodDescriptor (zm yq).1.desc).map (fun d => d.parameters.length) = some ((zm yq).2.2.2.2.2.2.1 - if (zm yq).2.2.2.2.2.2.2 = true then 0 else 1) ∧ (zm yq).2.2.1 ≤ 16 ∧ (zm yq).2.2.2.2.2.2.1 ≤ (zm yq).2.2.1 := by decide +kernel
theorem zm_noMH : ∀ yq, yq < 247 → (zm yq).1.cls ≠ "java/lang/invoke/MethodHandle" ∧ (zm yq).1.cls ≠ "java/lang/invoke/VarHandle" := by decide +kernel
theorem zm_pf : ∀ yq, yq < 247 → plainFor (zm yq).1 = true := by decide +kernel
theorem zm_inst : ∀ yq, yq < 247 → (zm yq).2.2.2.2.2.2.2 = false → yq ∈ zw_inst ∧ 1 ≤ (zm yq).2.2.2.2.2.2.1 := by decide +kernel
theorem zm_stat : ∀ yq, yq < 247 → (zm yq).2.2.2.2.2.2.2 = true → yq ∈ zw_stat := by decide +kernel
theorem zm_sel : ∀ yq, yq < 247 → (zm yq).2.2.2.2.2.2.2 = false → (zm yq).1.name ≠ "<init>" → yq ∈ zw_sel := by decide +kernel
theorem zm_ini : ∀ yq, yq < 247 → (zm yq).2.2.2.2.1 ∈ zw_ini := by decide +kernel
theorem zm_rt : ∀ yq, yq < 247 → ((zm yq).2.2.2.2.2.1 = 0 → (zm yq).2.2.2.1 = none) ∧ ((zm yq).2.2.2.2.2.1 = 1 → (zm yq).2.2.2.1 = some .int) ∧ ((zm yq).2.2.2.2.2.1 = 2 → (zm yq).2.2.2.1 = some .boolean) ∧ ((zm yq).2.2.2.2.2.1 = 3 → (zm yq).2.2.2.1 = some .char) ∧ ((zm yq).2.2.2.2.2.1 = 4 → (zm yq).2.2.2.1 = some .byte) ∧ ((zm yq).2.2.2.2.2.1 = 5 → (zm yq).2.2.2.1 = some .long) ∧ ((zm yq).2.2.2.2.2.1 = 6 → (zm yq).2.2.2.1 = some (.object "OneForOne$Law")) := by decide +kernel
theorem zml_some {oq idx yq : Nat} (h : zml oq idx = some yq) : (oq, idx, yq) ∈ zw_ml := by
  unfold zml at h
  split at h
  · next e0 h0 =>
    have h1 := List.find?_some h0
    have h2 := List.mem_of_find?_eq_some h0
    simp only [Bool.and_eq_true, beq_iff_eq] at h1
    obtain ⟨a1, a2, a3⟩ := e0
    dsimp only at h1 h
    cases h
    rw [h1.1, h1.2] at h2
    exact h2
  · cases h
theorem znl_some {oq idx yq : Nat} (h : znl oq idx = some yq) : (oq, idx, yq) ∈ zw_nl := by
  unfold znl at h
  split at h
  · next e0 h0 =>
    have h1 := List.find?_some h0
    have h2 := List.mem_of_find?_eq_some h0
    simp only [Bool.and_eq_true, beq_iff_eq] at h1
    obtain ⟨a1, a2, a3⟩ := e0
    dsimp only at h1 h
    cases h
    rw [h1.1, h1.2] at h2
    exact h2
  · cases h
/-- the words of a method -/
def zws (yq : Nat) : List Cond := zw_code_w yq :: zgw
theorem zgood (w : Cond) (h : w ∈ zgw) : w ∈ zgw ∧ ((w.onTables && w.keeps) = true ∨ ∃ ty, w = .arrayClass ty) := ⟨h, good_of_word (zgw_good h)⟩
theorem zws_good {yq : Nat} (hy : yq < 247) : GoodIn zgw (zws yq) := by
  intro w hw
  rcases List.mem_cons.mp hw with h | h
  · rw [h]; exact zgood _ (zw_code_ok hy)
  · exact zgood _ h
def zrm (d n n2 : Nat) : Room := { frames := d, cells := n2 - n, slots := zsz n2 - zsz n, locals := 64 * d }
def zPc (cA dC : Nat → ClassId) (dI : Nat → Nat → Nat) (sp : Nat → Value) (xs : Nat → Int) (L base : Nat) (ad : Nat → Nat) (n : Nat) (sq : Pl) (argq : List AV) : Array Value → State → Prop :=
  va_Pc (argq.map (ztr sp ad)) fun U => base ≤ U.heap.size ∧ zmok n sq ∧ va_P (dC, dI) classes (zwo cA ad n sq) U.heap ∧ va_D (zA base) (zwo cA ad n sq) ∧ va_K (dC, dI) classes (zTY cA) U ∧ zXt sp xs L (zA base) U U.heap ∧ zPl n argq
def zQc (cA dC : Nat → ClassId) (dI : Nat → Nat → Nat) (sp : Nat → Value) (base : Nat) (ad : Nat → Nat) (n : Nat) (r : Option AV) (n2 : Nat) (sq2 : Pl) : Array Value → State → Outcome → State → Prop := fun _ st oc t =>
  ∃ ad2 : Nat → Nat, (∀ k, k < n → ad2 k = ad k) ∧ oc = .returned (r.map (ztr sp ad2)) ∧ zmok n2 sq2 ∧ va_P (dC, dI) classes (zwo cA ad2 n2 sq2) t.heap ∧ va_D (zA base) (zwo cA ad2 n2 sq2) ∧ zPl n2 r.toList ∧ n ≤ n2 ∧ va_F (zA base) st t
/-- what a way of calling keeps: the contract of each method at a depth -/
def zMet (l : Launch) (xs : Nat → Int) (L : Nat) (ex : ZX) (d : Nat) : Prop :=
  ∀ (yq : Nat) (argq : List AV) (n : Nat) (sq : Pl) (r : Option AV) (n2 : Nat) (sq2 : Pl), yq < 247 → argq.length = (zm yq).2.2.2.2.2.2.1 → (∀ v ∈ argq, zcat v = 1) → ex yq argq n sq = some (r, n2, sq2) →
    ∀ (cA dC : Nat → ClassId) (dI : Nat → Nat → Nat) (sp : Nat → Value) (base : Nat) (ad : Nat → Nat),
      Met l (zm yq).1 (zws yq) (zrm d n n2) (zPc cA dC dI sp xs L base ad n sq argq) (zQc cA dC dI sp base ad n r n2 sq2) (n2 - n) (zsz n2 - zsz n) (zA base)
/-- cells only come -/
def zMono (ex : ZX) : Prop := ∀ yq argq n sq r n2 sq2, ex yq argq n sq = some (r, n2, sq2) → n ≤ n2
theorem zsA_mono {o : Nat} {ini : Bool} {i : Instr} {z : Nat} {f f2 : Fm} (h : zsA o ini i z f = some f2) : f2.2.2.2.1 = f.2.2.2.1 := by
  unfold zsA at h
  (repeat' split at h) <;> first | (cases h; rfl) | (cases h; done)
theorem zsB_mono {o : Nat} {ini : Bool} {i : Instr} {z : Nat} {f f2 : Fm} (h : zsB o ini i z f = some f2) : f2.2.2.2.1 = f.2.2.2.1 := by
  unfold zsB at h
  (repeat' split at h) <;> first | (cases h; rfl) | (cases h; done)
theorem zsC_mono {o : Nat} {ini : Bool} {i : Instr} {z : Nat} {f f2 : Fm} (h : zsC o ini i z f = some f2) : f2.2.2.2.1 = f.2.2.2.1 := by
  unfold zsC at h
  (repeat' split at h) <;> first | (cases h; rfl) | (cases h; done)
theorem zsD_mono {xs : Nat → Int} {L o : Nat} {ini : Bool} {i : Instr} {z : Nat} {f f2 : Fm} (h : zsD xs L o ini i z f = some f2) : f2.2.2.2.1 = f.2.2.2.1 := by
  unfold zsD at h
  (repeat' split at h) <;> first | (cases h; rfl) | (cases h; done)
theorem zsE_mono {o : Nat} {ini : Bool} {i : Instr} {z : Nat} {f f2 : Fm} (h : zsE o ini i z f = some f2) : f.2.2.2.1 ≤ f2.2.2.2.1 := by
  unfold zsE at h
  (repeat' split at h) <;> first | (cases h; exact Nat.le_refl _) | (cases h; exact Nat.le_succ _) | (cases h; done)
theorem zstep_mono {xs : Nat → Int} {L o : Nat} {ini : Bool} {i : Instr} {z : Nat} {f f2 : Fm} (h : zstep xs L o ini i z f = some f2) : f.2.2.2.1 ≤ f2.2.2.2.1 := by
  unfold zstep at h
  split at h
  · next r hr => cases h; exact Nat.le_of_eq (zsA_mono hr).symm
  · split at h
    · next r hr => cases h; exact Nat.le_of_eq (zsB_mono hr).symm
    · split at h
      · next r hr => cases h; exact Nat.le_of_eq (zsC_mono hr).symm
      · split at h
        · next r hr => cases h; exact Nat.le_of_eq (zsD_mono hr).symm
        · exact zsE_mono h
theorem zrun_mono {xs : Nat → Int} {L : Nat} {ex : ZX} (hm : zMono ex) {yq o rt : Nat} {ini : Bool} : ∀ (N : Nat) (f : Fm) (r : Option AV) (n2 : Nat) (sq2 : Pl), zrun xs L ex yq o rt ini N f = some (r, n2, sq2) → f.2.2.2.1 ≤ n2 := by
  intro N
  induction N with
  | zero => intro f r n2 sq2 h; cases h
  | succ N ih =>
    intro f r n2 sq2 h
    unfold zrun at h
    split at h
    · cases h
    · split at h
      · next r0 hr => 
        have h := Option.some.inj h
        have h2 := congrArg (fun q => q.2.1) h
        exact Nat.le_of_eq h2
      · split at h
        · split at h
          · split at h
            · next r1 n1 s1 he =>
              exact Nat.le_trans (hm _ _ _ _ _ _ _ he) (ih _ _ _ _ h)
            · cases h
          · cases h
        · split at h
          · next f2 hf => exact Nat.le_trans (zstep_mono hf) (ih _ _ _ _ h)
          · cases h
theorem zex_mono {xs : Nat → Int} {L N : Nat} : ∀ d, zMono (zex xs L N d) := by
  intro d
  induction d with
  | zero => intro yq argq n sq r n2 sq2 h; cases h
  | succ d ih =>
    intro yq argq n sq r n2 sq2 h
    exact zrun_mono ih _ _ _ _ _ h
theorem zsz_mono {a bq : Nat} (h : a ≤ bq) : zsz a ≤ zsz bq := by
  induction h with
  | refl => exact Nat.le_refl _
  | step _ ih => rw [zsz_succ]; omega
theorem zXt.cong {sp : Nat → Value} {xs : Nat → Int} {L : Nat} {A : Nat → Prop} {u U : State} (h : zXt sp xs L A u u.heap) (hv : U.vm = u.vm) (hh : U.heap = u.heap) : zXt sp xs L A U U.heap := by
  obtain ⟨h0, t, h1, h2, h3, h4, h5, h6, h7, h8, h9, h10, h11, h12, h13, h14, h15⟩ := h
  have al : u.vm.Alike U.vm := by rw [hv]; exact Vm.Alike.refl _
  rw [hh]
  refine ⟨h0, t, h1, h2, h3, fun j hj => (h4 j hj).moved al, fun j hj => (h5 j hj).moved al, fun j hj => ⟨(h6 j hj).1.moved al, (h6 j hj).2.1.moved al, (h6 j hj).2.2.moved al⟩, h7.moved al, h8.moved al, h9.moved al, h10.moved al, h11.same hv, h12.same hv, fun e he => ?_, h14.moved al, h15.moved al⟩
  exact va_tabs rfl hv.symm (h13 e he)
theorem zPc_blind {cA dC : Nat → ClassId} {dI : Nat → Nat → Nat} {sp : Nat → Value} {xs : Nat → Int} {L base : Nat} {ad : Nat → Nat} {n : Nat} {sq : Pl} {argq : List AV} : FrameBlind (zPc cA dC dI sp xs L base ad n sq argq) := by
  intro a U g mk q
  obtain ⟨q0, q1, q2, q3, q4, q5, q6, q7⟩ := q
  refine ⟨q0, q1, q2, q3, q4, va_K.moved (u := U) (U := U.calling g mk a) (Vm.Alike.refl U.vm) q5, ?_, q7⟩
  exact zXt.cong q6 rfl rfl
