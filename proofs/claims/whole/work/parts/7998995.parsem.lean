/-! the reference's grammar -/
def chM (c : Nat) (i : Int) : Prop := c = 72 ∧ 18 ≤ i ∧ i ≤ 24 ∨ (c = 82 ∨ c = 83) ∧ 1020 ≤ i
def rM (s0 : Pl) (o : Int) (x : TxS) (s : Pl) : Prop := (s 72 21 = ((x.p : Nat) : Int) ∧ s 72 22 = ((x.nx : Nat) : Int) ∧ tkR x.tk x.am (s 72 23) (s 72 24) ∧ s 72 18 = ((x.l : Nat) : Int) ∧ s 72 19 = -1 ∧ s 72 20 = o) ∧ (∀ k : Nat, k < x.l → stp (s 82 (1020 + ((k : Nat) : Int))) (s 83 (1020 + ((k : Nat) : Int))) (x.C ((k : Nat) : Int))) ∧ ∀ c i, ¬ chM c i → s c i = s0 c i
def nM (s0 : Pl) (B : Int) (p : Nat) (s : Pl) : Prop := s 72 19 = ((p : Nat) : Int) ∧ 0 ≤ s 72 18 ∧ s 72 18 ≤ B ∧ ∀ c i, ¬ chM c i → s c i = s0 c i
theorem nM.up {s0 s : Pl} {B B2 : Int} {p : Nat} (h : nM s0 B p s) (hB : B ≤ B2) : nM s0 B2 p s := ⟨h.1, h.2.1, by have := h.2.2.1; omega, h.2.2.2⟩
theorem tM.fr {f : Int → Int} {m : Nat} {s0 s : Pl} (h : tM f m s0) (k : ∀ c i, ¬ chM c i → s c i = s0 c i) : tM f m s :=
  h.cong (k 72 12 (by unfold chM; omega)) (funext fun i => k 81 i (by unfold chM; omega)) (funext fun i => k 87 i (by unfold chM; omega)) (funext fun i => k 88 i (by unfold chM; omega))
theorem rM.opn {s0 : Pl} {o : Int} {x : TxS} {s : Pl} (h : rM s0 o x s) (o2 : Int) : rM s0 o2 x (zup s 72 20 o2) := by
  obtain ⟨⟨h1, h2, h3, h4, h5, h6⟩, h7, h8⟩ := h
  refine ⟨⟨by rw [zg, if_neg (by omega), h1], by rw [zg, if_neg (by omega), h2], by rw [zg, if_neg (by omega), zg, if_neg (by omega)]; exact h3, by rw [zg, if_neg (by omega), h4], by rw [zg, if_neg (by omega), h5], by rw [zg, if_pos ⟨rfl, rfl⟩]⟩, fun k hk => ?_, fun c i hc => ?_⟩
  · rw [zg, if_neg (by omega), zg, if_neg (by omega)]; exact h7 k hk
  · rw [zg, if_neg (by unfold chM at hc; omega), h8 c i hc]
theorem nM.opn {s0 : Pl} {B : Int} {p : Nat} {s : Pl} (h : nM s0 B p s) (o2 : Int) : nM s0 B p (zup s 72 20 o2) := by
  obtain ⟨h1, h2, h3, h4⟩ := h
  have e : zup s 72 20 o2 72 18 = s 72 18 := by rw [zg, if_neg (by omega)]
  exact ⟨by rw [zg, if_neg (by omega), h1], by rw [e]; exact h2, by rw [e]; exact h3, fun c i hc => by rw [zg, if_neg (by unfold chM at hc; omega), h4 c i hc]⟩
section PAM
variable {xs : Nat → Int} {L : Nat} {d : Nat} {s s0 : Pl} {f : Int → Int} {m : Nat} {o : Int}
theorem m146 (hd : 3 ≤ d) (hb : tM f m s0) {x : TxS} (h : rM s0 o x s) (hn : x.nx ≤ m) {P : Pl → Prop} (k : ∀ s1, rM s0 o (stepT f m x) s1 → P s1) : Ev xs L T0 106 d 146 [rf 73] s (qv P) := by
  obtain ⟨⟨h1, h2, h3, h4, h5, h6⟩, h7, h8⟩ := h
  refine i146 hd (hb.fr h8) h2 hn (fun s1 a1 a2 a3 a4 => k s1 ⟨⟨a1, a2, a3, ?_, ?_, ?_⟩, fun k hk => ?_, fun c i hc => ?_⟩)
  · rw [a4 72 18 (by omega), h4]; rfl
  · rw [a4 72 19 (by omega), h5]
  · rw [a4 72 20 (by omega), h6]
  · rw [a4 82 _ (by omega), a4 83 _ (by omega)]
    exact h7 k hk
  · rw [a4 c i (by unfold chM at hc; omega), h8 c i hc]
theorem q150 (hd : 1 ≤ d) {w v l : Int} (hl : s 72 18 = l) (h0 : 0 ≤ l ∧ l ≤ 168) {P : Pl → Prop} (k : P (zup (zup (zup s 82 (1020 + l) w) 83 (1020 + l) v) 72 18 (l + 1))) : Ev xs L T0 106 d 150 [rf 73, it w, it v] s (qv P) := by
  refine e150 hd (f150_0 ?_)
  have z1 : ∀ _ : Unit, zw (1020 + l) = 1020 + l := fun _ => zw_id (by omega) (by omega)
  have z2 : ∀ _ : Unit, zw (l + 1) = l + 1 := fun _ => zw_id (by omega) (by omega)
  rw [hl, z1 ()]
  have e1 : zup s 82 (1020 + l) w 72 18 = l := by rw [zg, if_neg (by omega), hl]
  rw [e1, z1 ()]
  have e2 : zup (zup s 82 (1020 + l) w) 83 (1020 + l) v 72 18 = l := by rw [zg, if_neg (by omega), e1]
  rw [e2, z2 ()]
  exact ⟨by omega, by omega, k⟩
theorem m150 (hd : 1 ≤ d) {x : TxS} (h : rM s0 o x s) (hl : x.l ≤ 168) {w v c : Int} (hs : stp w v c) {P : Pl → Prop} (k : ∀ s1, rM s0 o (addT c x) s1 → P s1) : Ev xs L T0 106 d 150 [rf 73, it w, it v] s (qv P) := by
  obtain ⟨⟨h1, h2, h3, h4, h5, h6⟩, h7, h8⟩ := h
  refine q150 hd h4 (by omega) (k _ ⟨⟨?_, ?_, ?_, ?_, ?_, ?_⟩, fun k hk => ?_, fun q i hc => ?_⟩)
  · rw [zg, if_neg (by omega), zg, if_neg (by omega), zg, if_neg (by omega), h1]; rfl
  · rw [zg, if_neg (by omega), zg, if_neg (by omega), zg, if_neg (by omega), h2]; rfl
  · rw [zg, if_neg (by omega), zg, if_neg (by omega), zg, if_neg (by omega), zg, if_neg (by omega), zg, if_neg (by omega), zg, if_neg (by omega)]; exact h3
  · rw [zg, if_pos ⟨rfl, rfl⟩]; rfl
  · rw [zg, if_neg (by omega), zg, if_neg (by omega), zg, if_neg (by omega), h5]
  · rw [zg, if_neg (by omega), zg, if_neg (by omega), zg, if_neg (by omega), h6]
  · have e8 : (addT c x).l = x.l + 1 := rfl
    by_cases e : k = x.l
    · rw [e, addT_C2, zg, if_neg (by omega), zg, if_neg (by omega), zg, if_pos ⟨rfl, rfl⟩, zg, if_neg (by omega), zg, if_pos ⟨rfl, rfl⟩]; exact hs
    · rw [addT_C (by omega), zg, if_neg (by omega), zg, if_neg (by omega), zg, if_neg (by omega), zg, if_neg (by omega), zg, if_neg (by omega), zg, if_neg (by omega)]
      exact h7 k (by omega)
  · rw [zg, if_neg (by unfold chM at hc; omega), zg, if_neg (by unfold chM at hc; omega), zg, if_neg (by unfold chM at hc; omega), h8 q i hc]
theorem m150n (hd : 1 ≤ d) {p : Nat} {B B2 : Int} (h : nM s0 B p s) (hB : B + 1 ≤ B2 ∧ B2 ≤ 169) {w v : Int} {P : Pl → Prop} (k : ∀ s1, nM s0 B2 p s1 → P s1) : Ev xs L T0 106 d 150 [rf 73, it w, it v] s (qv P) := by
  obtain ⟨h1, h2, h3, h4⟩ := h
  refine q150 hd rfl (by omega) (k _ ⟨?_, ?_, ?_, fun q i hc => ?_⟩)
  · rw [zg, if_neg (by omega), zg, if_neg (by omega), zg, if_neg (by omega), h1]
  · rw [zg, if_pos ⟨rfl, rfl⟩]; omega
  · rw [zg, if_pos ⟨rfl, rfl⟩]; omega
  · rw [zg, if_neg (by unfold chM at hc; omega), zg, if_neg (by unfold chM at hc; omega), zg, if_neg (by unfold chM at hc; omega), h4 q i hc]
theorem m147 (hd : 1 ≤ d) {x : TxS} (h : rM s0 o x s) {P : Pl → Prop} (k : ∀ s1, nM s0 ((x.l : Nat) : Int) x.p s1 → P s1) : Ev xs L T0 106 d 147 [rf 73] s (qv P) := by
  obtain ⟨⟨h1, h2, h3, h4, h5, h6⟩, h7, h8⟩ := h
  refine e147 hd (f147_0 ?_)
  rw [h5, h1]
  refine ⟨fun g => absurd g (by decide), fun _ => k _ ⟨?_, ?_, ?_, fun q i hc => ?_⟩⟩
  · rw [zg, if_pos ⟨rfl, rfl⟩]
  · rw [zg, if_neg (by omega), h4]; omega
  · rw [zg, if_neg (by omega), h4]; omega
  · rw [zg, if_neg (by unfold chM at hc; omega), h8 q i hc]
theorem m147n (hd : 1 ≤ d) {p : Nat} {B : Int} (h : nM s0 B p s) {P : Pl → Prop} (k : P s) : Ev xs L T0 106 d 147 [rf 73] s (qv P) := by
  refine e147 hd (f147_0 ?_)
  rw [h.1]
  exact ⟨fun _ => k, fun g => absurd (by omega) g⟩
theorem m148 (hd : 1 ≤ d) {x : TxS} (h : rM s0 o x s) (hw : wfS m x) {b : Int} (hb : 12 ≤ b ∧ b < 300) {P : Int → Pl → Prop} (k1 : x.tk = b → P 1 s) (k0 : x.tk ≠ b → P 0 s) : Ev xs L T0 106 d 148 [rf 73, it b] s (qi P) := by
  obtain ⟨⟨h1, h2, ⟨t1, t2, t3, t4, t5⟩, h4, h5, h6⟩, h7, h8⟩ := h
  have r := hw.2.2.2.2
  refine e148 hd (f148_0 ?_)
  rw [h5]
  refine ⟨fun g => absurd g (by decide), fun _ => ⟨fun g => k0 (fun q => g (t2 (by omega) (by omega)).1), fun g => ?_⟩⟩
  have c1 : ¬ x.tk < 12 := fun q => by have := (t1 q).1; omega
  have c2 : x.tk < 300 := by
    by_cases q : x.tk < 300
    · exact q
    · exfalso
      rcases (show x.tk = 300 ∨ x.tk = 301 ∨ x.tk = 302 by omega) with q2 | q2 | q2
      · have := (t3 q2).1; omega
      · have := t4 q2; omega
      · have := t5 q2; omega
  have e := (t2 (by omega) c2).2
  rw [e]
  exact ⟨fun g => k0 g, fun g => k1 (Decidable.not_not.mp g)⟩
theorem m148n (hd : 1 ≤ d) {p : Nat} {B b : Int} (h : nM s0 B p s) {P : Int → Pl → Prop} (k : P 0 s) : Ev xs L T0 106 d 148 [rf 73, it b] s (qi P) := by
  refine e148 hd (f148_0 ?_)
  rw [h.1]
  exact ⟨fun _ => k, fun g => absurd (by omega) g⟩
theorem m149 (hd : 1 ≤ d) {x : TxS} (h : rM s0 o x s) (hw : wfS m x) {b : Int} (hb : 10 ≤ b ∧ b < 16) {P : Int → Pl → Prop} (k1 : x.tk = b - 4 → P 1 s) (k0 : x.tk ≠ b - 4 → P 0 s) : Ev xs L T0 106 d 149 [rf 73, it b] s (qi P) := by
  obtain ⟨⟨h1, h2, ⟨t1, t2, t3, t4, t5⟩, h4, h5, h6⟩, h7, h8⟩ := h
  have r := hw.2.2.2.2
  refine e149 hd (f149_0 ?_)
  rw [h5]
  refine ⟨fun g => absurd g (by decide), fun _ => ⟨fun g => k0 (fun q => g (t1 (by omega)).1), fun g => ?_⟩⟩
  have c2 : x.tk < 12 := by
    by_cases q : x.tk < 12
    · exact q
    · exfalso
      by_cases q3 : x.tk < 300
      · have := (t2 (by omega) q3).1; omega
      · rcases (show x.tk = 300 ∨ x.tk = 301 ∨ x.tk = 302 by omega) with q2 | q2 | q2
        · have := (t3 q2).1; omega
        · have := t4 q2; omega
        · have := t5 q2; omega
  have e := (t1 c2).2
  rw [e]
  unfold meanOf
  rw [if_neg (by omega)]
  by_cases q : x.tk < 6
  · rw [if_pos q]
    exact ⟨fun _ => k0 (by omega), fun g => absurd (by omega) g⟩
  · rw [if_neg q]
    exact ⟨fun g => k0 (by omega), fun g => k1 (by omega)⟩
theorem m149n (hd : 1 ≤ d) {p : Nat} {B b : Int} (h : nM s0 B p s) {P : Int → Pl → Prop} (k : P 0 s) : Ev xs L T0 106 d 149 [rf 73, it b] s (qi P) := by
  refine e149 hd (f149_0 ?_)
  rw [h.1]
  exact ⟨fun _ => k, fun g => absurd (by omega) g⟩
theorem m151 (hd : 4 ≤ d) (hb : tM f m s0) (ho : 0 ≤ o ∧ o ≤ 5) {x : TxS} (h : rM s0 o x s) (hn : x.nx ≤ m) {P : Int → Pl → Prop} (k : o < 5 → ∀ s1, rM s0 (o + 1) (stepT f m x) s1 → P 1 s1) (k0 : ¬ o < 5 → ∀ s1, nM s0 ((x.l : Nat) : Int) x.p s1 → P 0 s1) : Ev xs L T0 106 d 151 [rf 73] s (qi P) := by
  have e := h.1.2.2.2.2.2
  refine e151 (by omega) (f151_0 ?_)
  rw [e]
  refine ⟨fun g => ?_, fun g => m147 (by omega) h (k0 (by omega))⟩
  rw [zw_id (by omega) (by omega)]
  exact m146 (by omega) hb (h.opn (o + 1)) hn (k (by omega))
variable (xs L d s0 m o) in
def MZ (y : Nat) (F : TxS → TxR) : Prop := ∀ (x : TxS) (s : Pl) (P : Pl → Prop), wfS m x → rM s0 o x s → (∀ z s1, F x = .inl z → rM s0 o z s1 → P s1) → (∀ p s1, F x = .inr p → nM s0 (((x.l : Nat) : Int) + (((p : Nat) : Int) - ((x.p : Nat) : Int))) p s1 → P s1) → Ev xs L T0 106 d y [rf 73] s (qv P)
theorem MZ.up {d2 y : Nat} {F : TxS → TxR} (h : MZ xs L d s0 m o y F) (hd : d ≤ d2) : MZ xs L d2 s0 m o y F := fun x s P a b c e => (h x s P a b c e).up hd
theorem MZ.lp {y yi yt : Nat} {q tkc cd wq : Int} {op : Int → Option Int} {F : TxS → TxR} (hd : 4 ≤ d) (hb : tM f m s0) (hop : ∀ k, op k = if k = tkc then some cd else none) (h301 : tkc ≠ 301) (hs : stp wq 0 cd)
    (hf : ∀ (s : Pl) (P : Pl → Prop), Ev xs L T0 106 d yt [rf 73, it q] s (qi fun r2 s1 => ((r2 = 0 → P s1) ∧ (¬ (r2 = 0) → Ev xs L T0 106 d 146 [rf 73] s1 (qv fun s3 => Ev xs L T0 106 d yi [rf 73] s3 (qv fun s4 => Ev xs L T0 106 d 150 [rf 73, it wq, it 0] s4 (qv fun s5 => Fr xs L T0 106 d y 4 [some (rf 73)] [] s5 (qv P))))))) → Fr xs L T0 106 d y 4 [some (rf 73)] [] s (qv P))
    (ht : ∀ (x : TxS) (s : Pl) (P : Int → Pl → Prop), rM s0 o x s → wfS m x → (x.tk = tkc → P 1 s) → (x.tk ≠ tkc → P 0 s) → Ev xs L T0 106 d yt [rf 73, it q] s (qi P))
    (htn : ∀ (p : Nat) (B : Int) (s : Pl) (P : Int → Pl → Prop), nM s0 B p s → P 0 s → Ev xs L T0 106 d yt [rf 73, it q] s (qi P))
    (hF : MZ xs L d s0 m o yi F) (hG : Gz m F) : ∀ (j i : Nat) (x : TxS) (s : Pl) (P : Pl → Prop), i + j = 161 → wfS m x → i ≤ x.p → rM s0 o x s → (∀ z s1, lpT op (stepT f m) F j x = .inl z → rM s0 o z s1 → P s1) → (∀ p s1, lpT op (stepT f m) F j x = .inr p → nM s0 (((x.l : Nat) : Int) + (((p : Nat) : Int) - ((x.p : Nat) : Int))) p s1 → P s1) → Fr xs L T0 106 d y 4 [some (rf 73)] [] s (qv P) := by
  have hm := hb.1.2
  intro j
  induction j with
  | zero =>
    intro i x s P hi hw hp
    have := hw.1
    have := hw.2.1
    omega
  | succ j ih =>
    intro i x s P hi hw hp h k1 k0
    have w1 := hw.1
    have w2 := hw.2.1
    have w4 := hw.2.2.2.1
    refine hf _ _ (ht x s _ h hw (fun q => ⟨fun g => absurd g (by decide), fun _ => ?_⟩) (fun q => ⟨fun _ => k1 x s (by unfold lpT; rw [hop, if_neg q]) h, fun g => absurd rfl g⟩))
    have w3 := hw.2.2.1 (by rw [q]; exact h301)
    have st := stepT_ok (f := f) (x := x) w2 (by omega)
    have eq : lpT op (stepT f m) F (j + 1) x = bnd (F (stepT f m x)) fun y => lpT op (stepT f m) F j (addT cd y) := by
      show (match op x.tk with | none => _ | some c => _) = _
      rw [hop, if_pos q]
    rw [eq] at k1 k0
    have s2p := st.2.1
    have s2l := st.2.2.1
    refine m146 (by omega) hb h w2 (fun s1 r1 => hF _ _ _ st.1 r1 (fun z s2 ez r2 => ?_) (fun p s2 ep r2 => ?_))
    · have g := hG _ st.1
      rw [ez] at g k1 k0
      have g1 := g.2.1
      have g2 := g.2.2
      have zw1 := g.1.1
      have zw2 := g.1.2.1
      refine m150 (by omega) r2 (by omega) hs (fun s3 r3 => ?_)
      refine ih (i + 1) (addT cd z) s3 P (by omega) (wf_add g.1 (by omega)) (show i + 1 ≤ z.p by omega) r3 k1 (fun p s4 ep r4 => k0 p s4 ep (r4.up ?_))
      have e9 : (addT cd z).p = z.p := rfl
      have e8 : (addT cd z).l = z.l + 1 := rfl
      omega
    · have g := hG _ st.1
      rw [ep] at g k0
      have g1 := g.1
      have g2 := g.2
      refine m150n (by omega) r2 (B2 := ((x.l : Nat) : Int) + (((p : Nat) : Int) - ((x.p : Nat) : Int))) (by omega) (fun s3 r3 => hf _ _ (htn p _ s3 _ r3 ⟨fun _ => k0 p s3 rfl r3, fun g => absurd rfl g⟩))
theorem MZ.chn0 {y yi : Nat} {op : Int → Option Int} {F : TxS → TxR} (hlp : ∀ (x : TxS) (s : Pl) (P : Pl → Prop), wfS m x → rM s0 o x s → (∀ z s1, lpT op (stepT f m) F 161 x = .inl z → rM s0 o z s1 → P s1) → (∀ p s1, lpT op (stepT f m) F 161 x = .inr p → nM s0 (((x.l : Nat) : Int) + (((p : Nat) : Int) - ((x.p : Nat) : Int))) p s1 → P s1) → Fr xs L T0 106 d y 4 [some (rf 73)] [] s (qv P))
    (hz : ∀ (p : Nat) (B : Int) (s : Pl) (P : Pl → Prop), nM s0 B p s → P s → Fr xs L T0 106 d y 4 [some (rf 73)] [] s (qv P)) (hF : MZ xs L d s0 m o yi F) (hG : Gz m F) {x : TxS} {P : Pl → Prop} (hw : wfS m x) (h : rM s0 o x s) (k1 : ∀ z s1, chn op (stepT f m) F x = .inl z → rM s0 o z s1 → P s1) (k0 : ∀ p s1, chn op (stepT f m) F x = .inr p → nM s0 (((x.l : Nat) : Int) + (((p : Nat) : Int) - ((x.p : Nat) : Int))) p s1 → P s1) :
    Ev xs L T0 106 d yi [rf 73] s (qv fun s1 => Fr xs L T0 106 d y 4 [some (rf 73)] [] s1 (qv P)) := by
  unfold chn at k1 k0
  refine hF x s _ hw h (fun z s1 ez r1 => ?_) (fun p s1 ep r1 => ?_)
  · rw [ez] at k1 k0
    have g := hG x hw
    rw [ez] at g
    exact hlp z s1 P g.1 r1 k1 (fun p s2 ep r2 => k0 p s2 ep (r2.up (by have := g.2.2; omega)))
  · rw [ep] at k0
    exact hz p _ _ _ r1 (k0 p s1 rfl r1)
theorem stpq5 : stp 5 0 (-10) := by unfold stp; omega
theorem stpq6 : stp 6 0 (-11) := by unfold stp; omega
theorem stpq42 : stp 42 0 (-42) := by unfold stp; omega
theorem m152 (hd : 5 ≤ d) (hb : tM f m s0) {F : TxS → TxR} (hF : MZ xs L (d - 1) s0 m o 153 F) (hG : Gz m F) : MZ xs L d s0 m o 152 (chn opO (stepT f m) F) := fun x s P hw h k1 k0 =>
  e152 (by omega) (f152_0 (MZ.chn0 (fun x s P hw h k1 k0 => MZ.lp (by omega) hb (tkc := 9) (fun _ => rfl) (by decide) stpq5 (fun s P h => f152_4 h) (fun x s P h hw a b => m149 (by omega) h hw (by decide) a b) (fun p B s P h k => m149n (by omega) h k) hF hG 161 0 x s P rfl hw (Nat.zero_le _) h k1 k0) (fun p B s P h k => f152_4 (m149n (by omega) h ⟨fun _ => k, fun g => absurd rfl g⟩)) hF hG hw h k1 k0))
theorem m153 (hd : 5 ≤ d) (hb : tM f m s0) {F : TxS → TxR} (hF : MZ xs L (d - 1) s0 m o 154 F) (hG : Gz m F) : MZ xs L d s0 m o 153 (chn opA (stepT f m) F) := fun x s P hw h k1 k0 =>
  e153 (by omega) (f153_0 (MZ.chn0 (fun x s P hw h k1 k0 => MZ.lp (by omega) hb (tkc := 10) (fun _ => rfl) (by decide) stpq6 (fun s P h => f153_4 h) (fun x s P h hw a b => m149 (by omega) h hw (by decide) a b) (fun p B s P h k => m149n (by omega) h k) hF hG 161 0 x s P rfl hw (Nat.zero_le _) h k1 k0) (fun p B s P h k => f153_4 (m149n (by omega) h ⟨fun _ => k, fun g => absurd rfl g⟩)) hF hG hw h k1 k0))
theorem m156 (hd : 5 ≤ d) (hb : tM f m s0) {F : TxS → TxR} (hF : MZ xs L (d - 1) s0 m o 157 F) (hG : Gz m F) : MZ xs L d s0 m o 156 (chn opM (stepT f m) F) := fun x s P hw h k1 k0 =>
  e156 (by omega) (f156_0 (MZ.chn0 (fun x s P hw h k1 k0 => MZ.lp (by omega) hb (tkc := 42) (fun _ => rfl) (by decide) stpq42 (fun s P h => f156_4 h) (fun x s P h hw a b => m148 (by omega) h hw (by decide) a b) (fun p B s P h k => m148n (by omega) h k) hF hG 161 0 x s P rfl hw (Nat.zero_le _) h k1 k0) (fun p B s P h k => f156_4 (m148n (by omega) h ⟨fun _ => k, fun g => absurd rfl g⟩)) hF hG hw h k1 k0))
end PAM
