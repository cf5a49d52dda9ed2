/-! the reference's tokens -/
def wst : List Nat := [0, 4, 7, 10, 15, 20, 23, 27, 31, 36, 39, 43]
def wsi (k : Nat) : Nat := wst.getD k 0
def meanOf (k : Int) : Int := if k = 302 then -1 else if k < 6 then k else k + 4
theorem mtab : ∀ k, k < 12 → (wsi k + wsz k < 47 ∧ wlet.getD (wsi k + wsz k) 0 = 32 ∧ (k + 1 < 12 → wsi (k + 1) = wsi k + wsz k + 1) ∧ wmea.getD k 0 = meanOf ((k : Nat) : Int)) ∧ ∀ j, j < wsz k → wlet.getD (wsi k + j) 0 = wch (5 * k + j) ∧ 97 ≤ wch (5 * k + j) ∧ wch (5 * k + j) ≤ 122 := by decide +kernel
theorem zb_lo : ∀ a, a < 256 → (a < 128 → zb8 ((a : Nat) : Int) = ((a : Nat) : Int)) ∧ (¬ a < 128 → zb8 ((a : Nat) : Int) < 0) := by decide +kernel
def tM (f : Int → Int) (m : Nat) (s : Pl) : Prop := (s 72 12 = ((m : Nat) : Int) ∧ m ≤ 160) ∧ (∀ i : Nat, i < m → 0 ≤ f ((i : Nat) : Int) ∧ f ((i : Nat) : Int) ≤ 255 ∧ s 81 ((i : Nat) : Int) = zb8 (f ((i : Nat) : Int))) ∧ (∀ i : Nat, i < 47 → s 87 ((i : Nat) : Int) = wlet.getD i 0) ∧ ∀ i : Nat, i < 12 → s 88 ((i : Nat) : Int) = wmea.getD i 0
theorem tM.b {f : Int → Int} {m : Nat} {s : Pl} (h : tM f m s) {k : Nat} (hk : k < m) : (0 ≤ f ((k : Nat) : Int) ∧ f ((k : Nat) : Int) < 128 ∧ s 81 ((k : Nat) : Int) = f ((k : Nat) : Int)) ∨ (128 ≤ f ((k : Nat) : Int) ∧ s 81 ((k : Nat) : Int) < 0) := by
  obtain ⟨h1, h2, h3⟩ := h.2.1 k hk
  have z := zb_lo (f ((k : Nat) : Int)).toNat (by omega)
  rw [show (((f ((k : Nat) : Int)).toNat : Nat) : Int) = f ((k : Nat) : Int) from by omega] at z
  rw [h3]
  by_cases e : f ((k : Nat) : Int) < 128
  · exact Or.inl ⟨h1, e, z.1 (by omega)⟩
  · exact Or.inr ⟨by omega, z.2 (by omega)⟩
theorem tM.cong {f : Int → Int} {m : Nat} {s s1 : Pl} (h : tM f m s) (k : s1 72 12 = s 72 12) (k2 : s1 81 = s 81) (k3 : s1 87 = s 87) (k4 : s1 88 = s 88) : tM f m s1 := by
  unfold tM
  rw [k, k2, k3, k4]
  exact h
theorem tM.up {f : Int → Int} {m : Nat} {s : Pl} (h : tM f m s) {i v : Int} (hi : i ≠ 12) : tM f m (zup s 72 i v) := h.cong (by rw [zg, if_neg (by omega)]) (by rw [zune _ _ _ (by decide)]) (by rw [zune _ _ _ (by decide)]) (by rw [zune _ _ _ (by decide)])
section WM
variable {xs : Nat → Int} {L : Nat} {d : Nat} {s : Pl} {f : Int → Int} {m : Nat}
theorem i143 {v : Int} {P : Int → Pl → Prop} (hd : 2 ≤ d) (h : 97 ≤ v ∧ v ≤ 122 → P 1 s) (h0 : ¬ (97 ≤ v ∧ v ≤ 122) → P 0 s) : Ev xs L T0 106 d 143 [it v] s (qi P) :=
  e143 (by omega) (f143_0 (i132 (by omega) (fun q => ⟨Or.inr rfl, h q⟩) (fun q => ⟨Or.inl rfl, h0 q⟩)))
theorem i144 {v : Int} {P : Int → Pl → Prop} (hd : 2 ≤ d) (h : 48 ≤ v ∧ v ≤ 57 → P 1 s) (h0 : ¬ (48 ≤ v ∧ v ≤ 57) → P 0 s) : Ev xs L T0 106 d 144 [it v] s (qi P) :=
  e144 (by omega) (f144_0 (i132 (by omega) (fun q => ⟨Or.inr rfl, h q⟩) (fun q => ⟨Or.inl rfl, h0 q⟩)))
theorem l145a {w p e : Nat} (hM : tM f m s) (hw : w < 12) (h21 : s 72 21 = ((p : Nat) : Int)) (h22 : s 72 22 = ((e : Nat) : Int)) (he : e ≤ m) {P : Int → Pl → Prop} (h1 : wqq f p e w → P (meanOf ((w : Nat) : Int)) s) (h0 : ¬ wqq f p e w → ∀ v3 v4 : Int, Fr xs L T0 106 d 145 87 [some (rf 73), some (it ((wsi w + wsz w + 1 : Nat) : Int)), some (it ((w : Nat) : Int)), some (it v3), some (it v4)] [] s (qi P)) : ∀ (j i : Nat) (v4 : Int), i + j = wsz w → p ≤ 160 → ((v4 = 1 ∧ ∀ q, q < i → p + q < e ∧ f ((p + q : Nat) : Int) = wch (5 * w + q)) ∨ (v4 = 0 ∧ ¬ ∀ q, q < wsz w → p + q < e ∧ f ((p + q : Nat) : Int) = wch (5 * w + q))) → Fr xs L T0 106 d 145 18 [some (rf 73), some (it ((wsi w + i : Nat) : Int)), some (it ((w : Nat) : Int)), some (it ((p + i : Nat) : Int)), some (it v4)] [] s (qi P) := by
  obtain ⟨⟨t1, t2, t3, t4⟩, t5⟩ := mtab w hw
  have hm := hM.1.2
  have tw := wtab w hw
  intro j
  induction j with
  | zero =>
    intro i v4 hi hp hv
    obtain rfl : i = wsz w := by omega
    refine f145_18 ⟨by omega, ?_⟩
    rw [hM.2.2.1 _ t1, t2, h22, hM.2.2.2 w hw, t4]
    rw [zw_id (x := ((wsi w + wsz w : Nat) : Int) + 1) (by omega) (by omega), show ((wsi w + wsz w : Nat) : Int) + 1 = ((wsi w + wsz w + 1 : Nat) : Int) from by omega]
    refine ⟨fun _ => ?_, fun g => absurd rfl g⟩
    rcases hv with ⟨rfl, hq⟩ | ⟨rfl, hq⟩
    · refine ⟨fun g => absurd g (by decide), fun _ => ⟨fun g => h0 (fun q => ?_) _ _, fun g => ⟨by omega, h1 ?_⟩⟩⟩
      · have := q.1; omega
      · exact ⟨by omega, fun q hq2 => (hq q hq2).2⟩
    · refine ⟨fun _ => h0 (fun q => hq (fun r hr => ⟨by have := q.1; omega, q.2 r hr⟩)) _ _, fun g => absurd rfl g⟩
  | succ j ih =>
    intro i v4 hi hp hv
    obtain ⟨a1, a2, a3⟩ := t5 i (by omega)
    refine f145_18 ⟨by omega, ?_⟩
    rw [hM.2.2.1 _ (by omega), a1, h22]
    have go : ∀ v, ((v = 1 ∧ ∀ q, q < i + 1 → p + q < e ∧ f ((p + q : Nat) : Int) = wch (5 * w + q)) ∨ (v = 0 ∧ ¬ ∀ q, q < wsz w → p + q < e ∧ f ((p + q : Nat) : Int) = wch (5 * w + q))) → Fr xs L T0 106 d 145 55 [some (rf 73), some (it ((wsi w + i : Nat) : Int)), some (it ((w : Nat) : Int)), some (it ((p + i : Nat) : Int)), some (it v)] [] s (qi P) := by
      intro v hv2
      refine f145_55 ?_
      rw [zw_id (by omega) (by omega), zw_id (by omega) (by omega)]
      exact ih (i + 1) v (by omega) hp hv2
    have bad : (¬ (p + i < e ∧ f ((p + i : Nat) : Int) = wch (5 * w + i))) → Fr xs L T0 106 d 145 52 [some (rf 73), some (it ((wsi w + i : Nat) : Int)), some (it ((w : Nat) : Int)), some (it ((p + i : Nat) : Int)), some (it v4)] [] s (qi P) := fun q => f145_52 (go 0 (Or.inr ⟨rfl, fun q2 => q (q2 i (by omega))⟩))
    refine ⟨fun g => absurd g (by omega), fun _ => ⟨fun g => bad (fun q => by omega), fun g => ⟨by omega, by omega, ?_⟩⟩⟩
    have b := hM.b (k := p + i) (by omega)
    refine ⟨fun g2 => go v4 ?_, fun g2 => bad (fun q => by omega)⟩
    rcases hv with ⟨v1, hq⟩ | hq
    · refine Or.inl ⟨v1, fun q hq2 => ?_⟩
      by_cases u : q = i
      · rw [u]; exact ⟨by omega, by omega⟩
      · exact hq q (by omega)
    · exact Or.inr hq
theorem l145 {p e : Nat} (hM : tM f m s) (h21 : s 72 21 = ((p : Nat) : Int)) (h22 : s 72 22 = ((e : Nat) : Int)) (hp : p ≤ 160) (he : e ≤ m) {P : Int → Pl → Prop} : ∀ (j k : Nat) (v1 : Int) (w3 w4 : Option AV), j + k = 12 → (k < 12 → v1 = ((wsi k : Nat) : Int)) → P (meanOf (wtok f p e j k)) s → Fr xs L T0 106 d 145 4 [some (rf 73), some (it v1), some (it ((k : Nat) : Int)), w3, w4] [] s (qi P) := by
  intro j
  induction j with
  | zero =>
    intro k v1 w3 w4 hk _ h
    exact f145_4 ⟨fun _ => h, fun g => absurd g (by omega)⟩
  | succ j ih =>
    intro k v1 w3 w4 hk hv h
    refine f145_4 ⟨fun g => absurd g (by omega), fun _ => ?_⟩
    rw [hv (by omega), h21]
    refine l145a (w := k) (p := p) (e := e) hM (by omega) h21 h22 he (fun q => ?_) (fun q v3 v4 => ?_) (wsz k) 0 1 (by omega) hp (Or.inl ⟨rfl, fun q hq => absurd hq (by omega)⟩)
    · rw [show wtok f p e (j + 1) k = ((k : Nat) : Int) from if_pos q] at h
      exact h
    · rw [show wtok f p e (j + 1) k = wtok f p e j (k + 1) from if_neg q] at h
      refine f145_87 ?_
      rw [zw_id (by omega) (by omega)]
      exact ih (k + 1) _ _ _ (by omega) (fun h2 => by rw [(mtab k (by omega)).1.2.2.1 h2]) h
theorem i145 {p e : Nat} (hd : 1 ≤ d) (hM : tM f m s) (h21 : s 72 21 = ((p : Nat) : Int)) (h22 : s 72 22 = ((e : Nat) : Int)) (hp : p ≤ 160) (he : e ≤ m) {P : Int → Pl → Prop} (h : P (meanOf (wtok f p e 12 0)) s) : Ev xs L T0 106 d 145 [rf 73] s (qi P) :=
  e145 hd (f145_0 (l145 hM h21 h22 hp he 12 0 0 _ _ rfl (fun _ => rfl) h))
end WM
