/-! the class's reader: the grammar -/
theorem wfS.cq {m : Nat} {x : TxS} {c : Int} (h : wfS m x) (hc : 0 ≤ c ∧ c < 300) : cod x.tk x.am = c ↔ x.tk = c := cod_eq ⟨h.2.2.2.2.1, h.2.2.2.2.2.1⟩ (fun e => (h.2.2.2.2.2.2 e).1) hc
theorem wfS.ce {m : Nat} {x : TxS} (h : wfS m x) : cod x.tk x.am = 300 ↔ x.tk = 301 := cod_end ⟨h.2.2.2.2.1, h.2.2.2.2.2.1⟩ (fun e => (h.2.2.2.2.2.2 e).1)
theorem wfS.cn {m : Nat} {x : TxS} (h : wfS m x) : (1000 ≤ cod x.tk x.am ↔ x.tk = 300) ∧ (cod x.tk x.am < 6 ↔ x.tk < 6) ∧ (cod x.tk x.am < 1000 ↔ x.tk ≠ 300) := cod_num ⟨h.2.2.2.2.1, h.2.2.2.2.2.1⟩ (fun e => (h.2.2.2.2.2.2 e).1)
def chC (t : Nat) (c : Nat) (i : Int) : Prop := c = 53 ∧ 5 ≤ i ∧ i ≤ 7 ∨ c = 53 ∧ i = 9 ∨ c = 21 + 4 * t ∧ i = 3 ∨ c = 22 + 4 * t
/-- which TOKEN is next -/
def kix (f : Int → Int) (m : Nat) (s0 : Pl) (x : TxS) (v : Int) : Prop := ∃ k F : Nat, v = ((k : Nat) : Int) ∧ k ≤ F ∧ tks f m s0 F ∧ x.nx = posn f m k ∧ (k = F → x.tk = 301 ∧ x.p = m)
def rC (f : Int → Int) (m : Nat) (t : Nat) (s0 : Pl) (o : Int) (x : TxS) (s : Pl) : Prop := (s 53 7 = ((x.p : Nat) : Int) ∧ kix f m s0 x (s 53 5) ∧ s 53 6 = cod x.tk x.am ∧ True ∧ s 53 9 = o) ∧ s (21 + 4 * t) 3 = ((x.l : Nat) : Int) ∧ s (22 + 4 * t) = x.C ∧ ∀ c i, ¬ chC t c i → s c i = s0 c i
def nC (t : Nat) (s0 : Pl) (p : Nat) (s : Pl) : Prop := s 53 7 = ((p : Nat) : Int) ∧ ∀ c i, ¬ chC t c i → s c i = s0 c i
def bC (f : Int → Int) (m t : Nat) (s0 : Pl) : Prop := tS f m s0 ∧ s0 53 8 = ((21 + 4 * t + 1 : Nat) : Int) ∧ t < 6
theorem rC.n {f : Int → Int} {m t : Nat} {s0 : Pl} {o : Int} {x : TxS} {s : Pl} (h : rC f m t s0 o x s) : nC t s0 x.p s := ⟨h.1.1, h.2.2.2⟩
theorem bC.tS {f : Int → Int} {m t : Nat} {s0 s : Pl} (h : bC f m t s0) (k : ∀ c i, ¬ chC t c i → s c i = s0 c i) : tS f m s := by
  have ht := h.2.2
  exact h.1.cong (k 53 1 (by unfold chC; omega)) (funext fun i => k 54 i (by unfold chC; omega))
theorem bC.l {f : Int → Int} {m t : Nat} {s0 s : Pl} (h : bC f m t s0) (k : ∀ c i, ¬ chC t c i → s c i = s0 c i) : s 53 8 = ((21 + 4 * t + 1 : Nat) : Int) := by
  have ht := h.2.2
  rw [k 53 8 (by unfold chC; omega)]; exact h.2.1
theorem rC.opn {f : Int → Int} {m t : Nat} {s0 : Pl} {o : Int} {x : TxS} {s : Pl} (h : rC f m t s0 o x s) (ht : t < 6) (o2 : Int) : rC f m t s0 o2 x (zup s 53 9 o2) := by
  obtain ⟨⟨h1, h2, h3, h4, h5⟩, h6, h7, h8⟩ := h
  refine ⟨⟨by rw [zg, if_neg (by omega), h1], by rw [zg, if_neg (by omega)]; exact h2, by rw [zg, if_neg (by omega), h3], trivial, by rw [zg, if_pos ⟨rfl, rfl⟩]⟩, by rw [zg, if_neg (by omega), h6], by rw [zune _ _ _ (by omega), h7], fun c i hc => ?_⟩
  rw [zg, if_neg (by unfold chC at hc; omega), h8 c i hc]
theorem nC.opn {t : Nat} {s0 : Pl} {p : Nat} {s : Pl} (h : nC t s0 p s) (o2 : Int) : nC t s0 p (zup s 53 9 o2) :=
  ⟨by rw [zg, if_neg (by omega), h.1], fun c i hc => by rw [zg, if_neg (by unfold chC at hc; omega), h.2 c i hc]⟩
section PAR
variable {xs : Nat → Int} {L : Nat} {T : List (Nat × Int × Int)} {n d : Nat} {s s0 : Pl} {f : Int → Int} {m t : Nat} {o : Int}
theorem c28 (hK : KR T n) (hd : 8 ≤ d) (hb : bC f m t s0) {x : TxS} (h : rC f m t s0 o x s) (hn : x.nx ≤ m) {P : Pl → Prop} (k : ∀ s1, rC f m t s0 o (stepT f m x) s1 → P s1) : Ev xs L T n d 28 [rf 54] s (qv P) := by
  have ht := hb.2.2
  obtain ⟨⟨h1, ⟨i, F, q1, q2, q3, q4, q5⟩, h3, h4, h5⟩, h6, h7, h8⟩ := h
  have qs : tks f m s F := q3.cong (h8 53 4 (by unfold chC; omega)) (funext fun j => h8 55 j (by unfold chC; omega)) (funext fun j => h8 56 j (by unfold chC; omega))
  by_cases e : i = F
  · obtain ⟨e1, e2⟩ := q5 e
    have en : x.nx = m := by rw [q4, e]; exact q3.end
    have est : stepT f m x = x := by
      show ((skp f m x.nx, (tokT f m x.am (skp f m x.nx)).2.2, (tokT f m x.am (skp f m x.nx)).1, (tokT f m x.am (skp f m x.nx)).2.1, x.l, x.C) : TxS) = (x.p, x.nx, x.tk, x.am, x.l, x.C)
      rw [en, skp_m, tok_end (Nat.le_refl m), e1, e2]
    rw [est] at k
    exact i28e hK (by omega) qs (by rw [q1, e]) (k s ⟨⟨h1, ⟨i, F, q1, q2, q3, q4, q5⟩, h3, h4, h5⟩, h6, h7, h8⟩)
  · refine i28 hK (by omega) qs q1 (by omega) (fun s1 a1 a2 a3 a5 => k s1 ⟨⟨?_, ⟨i + 1, F, a2, by omega, q3, ?_, fun e2 => ?_⟩, ?_, trivial, ?_⟩, ?_, ?_, fun c j hc => ?_⟩)
    · rw [a1, ← q4]; rfl
    · show (tokT f m x.am (skp f m x.nx)).2.2 = (tokT f m 0 (skp f m (posn f m i))).2.2
      rw [q4]
      exact (tok_am _ _ _).2.1
    · show (tokT f m x.am (skp f m x.nx)).1 = 301 ∧ skp f m x.nx = m
      rw [q4]
      exact q3.last e2 _
    · rw [a3]
      show _ = cod (tokT f m x.am (skp f m x.nx)).1 (tokT f m x.am (skp f m x.nx)).2.1
      rw [q4]
      exact tok_cod _ _ _
    · rw [a5 53 9 (by omega), h5]
    · rw [a5 _ _ (by omega), h6]; rfl
    · rw [show s1 (22 + 4 * t) = s (22 + 4 * t) from funext fun j => a5 _ j (by omega), h7]; rfl
    · rw [a5 c j (by unfold chC at hc; omega), h8 c j hc]
theorem c11 (hK : KR T n) (hd : 1 ≤ d) (ht : t < 6) {x : TxS} (h : rC f m t s0 o x s) (hl : x.l < 160) {c : Int} {P : Pl → Prop} (k : ∀ s1, rC f m t s0 o (addT c x) s1 → P s1) : Ev xs L T n d 11 [rf (21 + 4 * t + 1), it c] s (qv P) := by
  obtain ⟨⟨h1, h2, h3, h4, h5⟩, h6, h7, h8⟩ := h
  refine e11 hd (f11_0 hK ht ?_)
  rw [h6]
  refine ⟨fun g => absurd g (by omega), fun _ => ⟨fun g => absurd g (by omega), fun _ => ⟨by omega, ?_⟩⟩⟩
  have e : zup s (22 + 4 * t) ((x.l : Nat) : Int) c (21 + 4 * t) 3 = ((x.l : Nat) : Int) := by rw [zg, if_neg (by omega), h6]
  rw [e, zw_id (by omega) (by omega)]
  refine k _ ⟨⟨?_, ?_, ?_, trivial, ?_⟩, ?_, ?_, fun q i hc => ?_⟩
  · rw [zg, if_neg (by omega), zg, if_neg (by omega), h1]; rfl
  · rw [zg, if_neg (by omega), zg, if_neg (by omega)]; exact h2
  · rw [zg, if_neg (by omega), zg, if_neg (by omega), h3]; rfl
  · rw [zg, if_neg (by omega), zg, if_neg (by omega), h5]
  · rw [zg, if_pos ⟨rfl, rfl⟩]; rfl
  · rw [zune _ _ _ (by omega), zusm, h7]; rfl
  · rw [zg, if_neg (by unfold chC at hc; omega), zg, if_neg (by unfold chC at hc; omega), h8 q i hc]
theorem c11n (hK : KR T n) (hd : 1 ≤ d) (ht : t < 6) {p : Nat} (h : nC t s0 p s) {c : Int} {P : Pl → Prop} (k : ∀ s1, nC t s0 p s1 → P s1) : Ev xs L T n d 11 [rf (21 + 4 * t + 1), it c] s (qv P) := by
  refine e11 hd (f11_0 hK ht ⟨fun _ => k _ h, fun g1 => ⟨fun _ => k _ h, fun g2 => ⟨by omega, k _ ⟨?_, fun q i hc => ?_⟩⟩⟩⟩)
  · rw [zg, if_neg (by omega), zg, if_neg (by omega), h.1]
  · rw [zg, if_neg (by unfold chC at hc; omega), zg, if_neg (by unfold chC at hc; omega), h.2 q i hc]
theorem c26 (hK : KR T n) (hd : 9 ≤ d) (hb : bC f m t s0) (ho : 0 ≤ o ∧ o < 10) {x : TxS} (h : rC f m t s0 o x s) (hn : x.nx ≤ m) {P : Int → Pl → Prop} (k : o < 5 → ∀ s1, rC f m t s0 (o + 1) (stepT f m x) s1 → P 1 s1) (k0 : ¬ o < 5 → P 0 s) : Ev xs L T n d 26 [rf 54] s (qi P) := by
  have e := h.1.2.2.2.2
  refine e26 (by omega) (f26_0 hK ?_)
  rw [e]
  refine ⟨fun g => ?_, k0⟩
  rw [zw_id (by omega) (by omega)]
  exact c28 hK (by omega) hb (h.opn hb.2.2 (o + 1)) hn (k g)
variable (xs L T n d f m t s0 o) in
/-- method y does what F does, o brackets not yet closed -/
def CZ (y : Nat) (F : TxS → TxR) : Prop := ∀ (x : TxS) (s : Pl) (P : Int → Pl → Prop), wfS m x → rC f m t s0 o x s → (∀ z s1, F x = .inl z → rC f m t s0 o z s1 → P 1 s1) → (∀ p s1, F x = .inr p → nC t s0 p s1 → P 0 s1) → Ev xs L T n d y [rf 54] s (qi P)
theorem CZ.up {d2 y : Nat} {F : TxS → TxR} (h : CZ xs L T n d s0 f m t o y F) (hd : d ≤ d2) : CZ xs L T n d2 s0 f m t o y F := fun x s P a b c e => (h x s P a b c e).up hd
theorem CZ.lp {y yi : Nat} {tkc cd : Int} {op : Int → Option Int} {F : TxS → TxR} (hK : KR T n) (hd : 8 ≤ d) (hb : bC f m t s0) (hop : ∀ k, op k = if k = tkc then some cd else none) (h301 : 0 ≤ tkc ∧ tkc < 300)
    (hf : ∀ (v1 v2 : Int) (s : Pl) (P : Int → Pl → Prop), ((160 ≤ v2 → ((v1 = 0 ∨ v1 = 1) ∧ P v1 s)) ∧ (¬ (160 ≤ v2) → ((v1 = 0 → ((v1 = 0 ∨ v1 = 1) ∧ P v1 s)) ∧ (¬ (v1 = 0) → ((¬ s 53 6 = tkc → ((v1 = 0 ∨ v1 = 1) ∧ P v1 s)) ∧ (¬ (¬ s 53 6 = tkc) → Ev xs L T n d 28 [rf 54] s (qv fun s1 => Ev xs L T n d yi [rf 54] s1 (qi fun r3 s2 => ∃ tq4 : Nat, tq4 < 6 ∧ s2 53 8 = ((21 + 4 * tq4 + 1 : Nat) : Int) ∧ Ev xs L T n d 11 [rf (21 + 4 * tq4 + 1), it cd] s2 (qv fun s5 => Fr xs L T n d y 7 [some (rf 54), some (it r3), some (it (zw (v2 + 1)))] [] s5 (qi P)))))))))) → Fr xs L T n d y 7 [some (rf 54), some (it v1), some (it v2)] [] s (qi P))
    (hF : CZ xs L T n d s0 f m t o yi F) (hG : Gz m F) : ∀ (j i : Nat) (x : TxS) (s : Pl) (P : Int → Pl → Prop), i + j = 161 → wfS m x → i ≤ x.p → rC f m t s0 o x s → (∀ z s1, lpT op (stepT f m) F j x = .inl z → rC f m t s0 o z s1 → P 1 s1) → (∀ p s1, lpT op (stepT f m) F j x = .inr p → nC t s0 p s1 → P 0 s1) → Fr xs L T n d y 7 [some (rf 54), some (it 1), some (it ((i : Nat) : Int))] [] s (qi P) := by
  have hm := hb.1.2.1
  intro j
  induction j with
  | zero =>
    intro i x s P hi hw hp
    have := hw.1
    have := hw.2.1
    omega
  | succ j ih =>
    intro i x s P hi hw hp h k1 k0
    have e5 := h.1.2.2.1
    have w1 := hw.1
    have w2 := hw.2.1
    have w4 := hw.2.2.2.1
    refine hf _ _ _ _ ?_
    rw [e5, hw.cq h301]
    have hstop : x.tk ≠ tkc → P 1 s := fun q => k1 x s (by unfold lpT; rw [hop, if_neg q]) h
    by_cases q : x.tk = tkc
    · have w3 := hw.2.2.1 (by omega)
      have st := stepT_ok (f := f) (x := x) w2 (by omega)
      have eq : lpT op (stepT f m) F (j + 1) x = bnd (F (stepT f m x)) fun y => lpT op (stepT f m) F j (addT cd y) := by
        show (match op x.tk with | none => _ | some c => _) = _
        rw [hop, if_pos q]
      rw [eq] at k1 k0
      refine ⟨fun g => absurd g (by omega), fun _ => ⟨fun g => absurd g (by decide), fun _ => ⟨fun g => absurd q g, fun _ => ?_⟩⟩⟩
      refine c28 hK hd hb h w2 (fun s1 r1 => hF _ _ _ st.1 r1 (fun z s2 ez r2 => ?_) (fun p s2 ep r2 => ?_))
      · have g := hG _ st.1
        rw [ez] at g k1 k0
        have g1 := g.2.1
        have g2 := g.2.2
        have s2p := st.2.1
        have s2l := st.2.2.1
        have zw1 := g.1.1
        have zw2 := g.1.2.1
        refine ⟨t, hb.2.2, hb.l r2.2.2.2, c11 hK (by omega) hb.2.2 r2 (by omega) (fun s3 r3 => ?_)⟩
        rw [zw_id (by omega) (by omega)]
        exact ih (i + 1) (addT cd z) s3 P (by omega) (wf_add g.1 (by omega)) (show i + 1 ≤ z.p by omega) r3 k1 k0
      · rw [ep] at k0
        refine ⟨t, hb.2.2, hb.l r2.2, c11n hK (by omega) hb.2.2 r2 (fun s3 r3 => hf _ _ _ _ ?_)⟩
        exact ⟨fun _ => ⟨Or.inl rfl, k0 p s3 rfl r3⟩, fun _ => ⟨fun _ => ⟨Or.inl rfl, k0 p s3 rfl r3⟩, fun g => absurd rfl g⟩⟩
    · exact ⟨fun _ => ⟨Or.inr rfl, hstop q⟩, fun _ => ⟨fun g => absurd g (by decide), fun _ => ⟨fun _ => ⟨Or.inr rfl, hstop q⟩, fun g => absurd q g⟩⟩⟩
theorem CZ.chn0 {y yi : Nat} {op : Int → Option Int} {F : TxS → TxR} (hlp : ∀ (x : TxS) (s : Pl) (P : Int → Pl → Prop), wfS m x → rC f m t s0 o x s → (∀ z s1, lpT op (stepT f m) F 161 x = .inl z → rC f m t s0 o z s1 → P 1 s1) → (∀ p s1, lpT op (stepT f m) F 161 x = .inr p → nC t s0 p s1 → P 0 s1) → Fr xs L T n d y 7 [some (rf 54), some (it 1), some (it 0)] [] s (qi P))
    (hz : ∀ (s : Pl) (P : Int → Pl → Prop), P 0 s → Fr xs L T n d y 7 [some (rf 54), some (it 0), some (it 0)] [] s (qi P)) (hF : CZ xs L T n d s0 f m t o yi F) (hG : Gz m F) {x : TxS} {P : Int → Pl → Prop} (hw : wfS m x) (h : rC f m t s0 o x s) (k1 : ∀ z s1, chn op (stepT f m) F x = .inl z → rC f m t s0 o z s1 → P 1 s1) (k0 : ∀ p s1, chn op (stepT f m) F x = .inr p → nC t s0 p s1 → P 0 s1) :
    Ev xs L T n d yi [rf 54] s (qi fun r2 s1 => Fr xs L T n d y 7 [some (rf 54), some (it r2), some (it 0)] [] s1 (qi P)) := by
  unfold chn at k1 k0
  refine hF x s _ hw h (fun z s1 ez r1 => ?_) (fun p s1 ep r1 => ?_)
  · rw [ez] at k1 k0
    have g := hG x hw
    rw [ez] at g
    exact hlp z s1 P g.1 r1 k1 k0
  · rw [ep] at k0
    exact hz _ _ (k0 p s1 rfl r1)
theorem c20 (hK : KR T n) (hd : 9 ≤ d) (hb : bC f m t s0) {F : TxS → TxR} (hF : CZ xs L T n (d - 1) s0 f m t o 21 F) (hG : Gz m F) : CZ xs L T n d s0 f m t o 20 (chn opO (stepT f m) F) := fun x s P hw h k1 k0 =>
  e20 (by omega) (f20_0 hK (CZ.chn0 (fun x s P hw h k1 k0 => CZ.lp hK (by omega) hb (tkc := 9) (cd := -10) (fun _ => rfl) (by decide) (fun v1 v2 s P h => f20_7 hK h) hF hG 161 0 x s P rfl hw (Nat.zero_le _) h k1 k0) (fun s P h => f20_7 hK ⟨fun g => absurd g (by decide), fun _ => ⟨fun _ => ⟨Or.inl rfl, h⟩, fun g => absurd rfl g⟩⟩) hF hG hw h k1 k0))
theorem c21 (hK : KR T n) (hd : 9 ≤ d) (hb : bC f m t s0) {F : TxS → TxR} (hF : CZ xs L T n (d - 1) s0 f m t o 22 F) (hG : Gz m F) : CZ xs L T n d s0 f m t o 21 (chn opA (stepT f m) F) := fun x s P hw h k1 k0 =>
  e21 (by omega) (f21_0 hK (CZ.chn0 (fun x s P hw h k1 k0 => CZ.lp hK (by omega) hb (tkc := 10) (cd := -11) (fun _ => rfl) (by decide) (fun v1 v2 s P h => f21_7 hK h) hF hG 161 0 x s P rfl hw (Nat.zero_le _) h k1 k0) (fun s P h => f21_7 hK ⟨fun g => absurd g (by decide), fun _ => ⟨fun _ => ⟨Or.inl rfl, h⟩, fun g => absurd rfl g⟩⟩) hF hG hw h k1 k0))
theorem c24 (hK : KR T n) (hd : 9 ≤ d) (hb : bC f m t s0) {F : TxS → TxR} (hF : CZ xs L T n (d - 1) s0 f m t o 25 F) (hG : Gz m F) : CZ xs L T n d s0 f m t o 24 (chn opM (stepT f m) F) := fun x s P hw h k1 k0 =>
  e24 (by omega) (f24_0 hK (CZ.chn0 (fun x s P hw h k1 k0 => CZ.lp hK (by omega) hb (tkc := 42) (cd := -42) (fun _ => rfl) (by decide) (fun v1 v2 s P h => f24_7 hK h) hF hG 161 0 x s P rfl hw (Nat.zero_le _) h k1 k0) (fun s P h => f24_7 hK ⟨fun g => absurd g (by decide), fun _ => ⟨fun _ => ⟨Or.inl rfl, h⟩, fun g => absurd rfl g⟩⟩) hF hG hw h k1 k0))
end PAR
