/-! the reference's swaps -/
def lW (w s : Pl) : Prop := ∀ c, 22 ≤ c → stc c = true → s c = w c
theorem sW.lW {w s : Pl} (h : sW w s) : lW w s := fun c _ hc => h c hc
def Mst (w : Pl) (t n : Nat) (s : Pl) : Prop := lW w s ∧ (vX s ∧ (t : Int) < s 0 4 ∧ s 0 4 ≤ 6) ∧ (s 72 14 = (t : Nat) ∧ s 72 3 = (n : Nat)) ∧ (∀ p : Nat, p < n → s 74 p = w 3 p ∧ s 76 p = w 4 p ∧ s 77 p = w 5 p ∧ s 78 p = w 6 p ∧ s 79 p = w 7 p ∧ s 80 p = w 8 p) ∧ ∀ i : Int, 0 ≤ i → i < 16 → s 73 i = w 9 i
def mx (n x : Nat) (s : Pl) : Prop := s 72 2 = (bt x : Nat) ∧ ∀ r : Nat, r < n → s 75 r = (pl x r : Nat)
def mMs (c : Nat) (i : Int) : Prop := stc c = true ∨ mX c i ∨ (c = 72 ∧ (i = 3 ∨ i = 14)) ∨ c = 73 ∨ c = 74 ∨ (76 ≤ c ∧ c ≤ 80)
theorem cMst {w s s1 : Pl} {t n : Nat} (h : ∀ c i, mMs c i → s1 c i = s c i) (v : Mst w t n s) : Mst w t n s1 := by
  obtain ⟨v1, ⟨v2, v3, v4⟩, ⟨v5, v6⟩, v7, v8⟩ := v
  have e4 : s1 0 4 = s 0 4 := h 0 4 (by unfold mMs mX; exact Or.inr (Or.inl (Or.inr (Or.inr ⟨rfl, rfl⟩))))
  refine ⟨fun c h22 hc => ?_, ⟨cX v4 (fun c i hm => h c i (Or.inr (Or.inl hm))) v2, by rw [e4]; exact v3, by rw [e4]; exact v4⟩, ⟨by rw [h 72 14 (by simp [mMs])]; exact v5, by rw [h 72 3 (by simp [mMs])]; exact v6⟩, fun p hp => ?_, fun i h0 h1 => by rw [h 73 i (by simp [mMs])]; exact v8 i h0 h1⟩
  · rw [← v1 c h22 hc]
    exact funext fun i => h c i (Or.inl hc)
  · rw [h 74 _ (by simp [mMs]), h 76 _ (by simp [mMs]), h 77 _ (by simp [mMs]), h 78 _ (by simp [mMs]), h 79 _ (by simp [mMs]), h 80 _ (by simp [mMs])]
    exact v7 p hp
theorem mMs_out {c : Nat} {i : Int} (h : mMs c i) : c < 44 ∨ c = 72 ∧ (i = 3 ∨ i = 14) ∨ c = 73 ∨ c = 74 ∨ 76 ≤ c ∧ c ≤ 80 ∨ 82 ≤ c ∧ c ≤ 84 := by
  unfold mMs mX stc at h
  simp at h
  omega
theorem kG.mst {w s s1 : Pl} {t n : Nat} (h : kG s s1) (v : Mst w t n s) : Mst w t n s1 := cMst (fun c i hm => by have := mMs_out hm; exact h c i (by omega) (by omega)) v
theorem kG.mx {s s1 : Pl} {n x : Nat} (h : kG s s1) (v : mx n x s) : mx n x s1 := ⟨by rw [h 72 2 (by decide) (by decide)]; exact v.1, fun r hr => by rw [h 75 _ (by decide) (by decide)]; exact v.2 r hr⟩
theorem kG.refl (s : Pl) : kG s s := fun _ _ _ _ => rfl
theorem kG.trans {s s1 s2 : Pl} (h : kG s s1) (h2 : kG s1 s2) : kG s s2 := fun c i a b => by rw [h2 c i a b, h c i a b]
variable {xs : Nat → Int} {L : Nat} {d : Nat} {s : Pl}
theorem l172 {w : Pl} {t n x p q : Nat} {P : Int → Pl → Prop} (hn : n ≤ 6) (hm : Mst w t n s) (hx : mx n x s) (h1 : (∃ r, r < n ∧ r ≠ q ∧ pl x r = bt x) → P 1 s) (h0 : ¬ (∃ r, r < n ∧ r ≠ q ∧ pl x r = bt x) → P 0 s) : ∀ (j k : Nat) (v3 : Int), k + j = n → v3 = (k : Nat) → (∀ r, r < k → ¬ (r ≠ q ∧ pl x r = bt x)) → Fr xs L T0 106 d 172 39 [some (rf 73), some (it (p : Nat)), some (it (q : Nat)), some (it v3)] [] s (qi P) := by
  have e3 : s 72 3 = (n : Nat) := hm.2.2.1.2
  intro j
  induction j with
  | zero =>
    intro k v3 hk h3 hr
    refine f172_39 ⟨fun _ => h0 ?_, fun z => absurd (by omega) z⟩
    rintro ⟨r, a, b⟩
    exact hr r (by omega) b
  | succ j ih =>
    intro k v3 hk h3 hr
    have z3 : zw (v3 + 1) = ((k + 1 : Nat) : Int) := by rw [zw_id (by omega) (by omega)]; omega
    have go : (¬ (k ≠ q ∧ pl x k = bt x)) → Fr xs L T0 106 d 172 67 [some (rf 73), some (it (p : Nat)), some (it (q : Nat)), some (it v3)] [] s (qi P) := fun hh => f172_67 (by
      rw [z3]
      refine ih (k + 1) _ (by omega) rfl fun r hr2 => ?_
      by_cases e : r = k
      · subst e; exact hh
      · exact hr r (by omega))
    refine f172_39 ⟨fun z => absurd z (by omega), fun _ => ⟨fun z => go fun y => y.1 (by omega), fun z => ⟨by omega, fun y => go fun u => y ?_, fun y => h1 ⟨k, by omega, by omega, ?_⟩⟩⟩⟩
    · rw [h3, hx.2 k (by omega), hx.1, u.2]
    · have y := Classical.not_not.mp y
      rw [h3, hx.2 k (by omega), hx.1] at y
      omega
theorem i172 {w : Pl} {t n x p q : Nat} {P : Int → Pl → Prop} (hd : 1 ≤ d) (hn : n ≤ 6) (hm : Mst w t n s) (hx : mx n x s) (hp : p < n) (h1 : leaveV w n x p q → P 1 s) (h0 : ¬ leaveV w n x p q → P 0 s) : Ev xs L T0 106 d 172 [rf 73, it (p : Nat), it (q : Nat)] s (qi P) := by
  obtain ⟨a1, a2, a3, a4, a5, a6⟩ := hm.2.2.2.1 p hp
  refine e172 hd (f172_0 ?_)
  rw [a1, a2, hx.1]
  refine ⟨by omega, fun b => ⟨by omega, fun c => h1 ⟨b, fun z => absurd z c⟩, fun c => ⟨by omega, fun e => ?_, fun e => h1 ⟨b, fun _ z => absurd (Classical.not_not.mp e) z⟩⟩⟩, fun b => h0 fun z => absurd (Classical.not_not.mp b) z.1⟩
  exact l172 hn hm hx (fun z => h1 ⟨b, fun _ _ => z⟩) (fun z => h0 fun y => z (y.2 (Classical.not_not.mp c) e)) n 0 _ (by omega) rfl (fun r hr => absurd hr (by omega))
theorem l173 {w : Pl} {t n x p q : Nat} {P : Int → Pl → Prop} (hk : wOk w t n) (hm : Mst w t n s) (hx : mx n x s) (hq : q < n) (h1 : boardV w n x p q → P 1 s) (h0 : ¬ boardV w n x p q → P 0 s) : ∀ (j k : Nat) (v3 v4 : Int), k + j = n → v4 = (k : Nat) → (∀ r, r < k → pl x r = 4 → r ≠ p → foV w q r = false) → (v3 ≠ 0 ↔ ∃ r, r < k ∧ pl x r = 4 ∧ r ≠ p ∧ ((r : Nat) : Int) = w 7 q) → Fr xs L T0 106 d 173 5 [some (rf 73), some (it (q : Nat)), some (it (p : Nat)), some (it v3), some (it v4)] [] s (qi P) := by
  obtain ⟨⟨hn1, hn⟩, _, hpp, _⟩ := hk
  have hq9 := (hpp q hq).2.2.2
  have e3 : s 72 3 = (n : Nat) := hm.2.2.1.2
  obtain ⟨a1, a2, a3, a4, a5, a6⟩ := hm.2.2.2.1 q hq
  intro j
  induction j with
  | zero =>
    intro k v3 v4 hk h4 hf hv
    have ek : k = n := by omega
    subst ek
    refine f173_5 ⟨fun _ => ⟨by omega, fun b => f173_84 (h1 ⟨hf, fun z => absurd (by rw [a1]; exact z) b⟩), fun b => ⟨fun c => h0 fun z => absurd (hv.mpr (z.2 (by rw [← a1]; exact Classical.not_not.mp b))) (by omega), fun c => f173_84 (h1 ⟨hf, fun _ => hv.mp c⟩)⟩⟩, fun z => absurd (by omega) z⟩
  | succ j ih =>
    intro k v3 v4 hk h4 hf hv
    have z3 : zw (v4 + 1) = ((k + 1 : Nat) : Int) := by rw [zw_id (by omega) (by omega)]; omega
    have go : ∀ v : Int, (pl x k = 4 → k ≠ p → foV w q k = false) → (v ≠ 0 ↔ ∃ r, r < k + 1 ∧ pl x r = 4 ∧ r ≠ p ∧ ((r : Nat) : Int) = w 7 q) → Fr xs L T0 106 d 173 64 [some (rf 73), some (it (q : Nat)), some (it (p : Nat)), some (it v), some (it v4)] [] s (qi P) := fun v g1 g2 => f173_64 (by
      rw [z3]
      refine ih (k + 1) _ _ (by omega) rfl (fun r hr2 => ?_) g2
      by_cases e : r = k
      · subst e; exact g1
      · exact hf r (by omega))
    have same : (¬ (pl x k = 4 ∧ k ≠ p ∧ ((k : Nat) : Int) = w 7 q)) → (v3 ≠ 0 ↔ ∃ r, r < k + 1 ∧ pl x r = 4 ∧ r ≠ p ∧ ((r : Nat) : Int) = w 7 q) := by
      intro g
      rw [hv]
      constructor
      · rintro ⟨r, b1, b2⟩; exact ⟨r, by omega, b2⟩
      · rintro ⟨r, b1, b2⟩
        by_cases e : r = k
        · subst e; exact absurd b2 g
        · exact ⟨r, by omega, b2⟩
    have hat : s 75 v4 = (pl x k : Nat) := by rw [h4]; exact hx.2 k (by omega)
    have hbit : zand (zshr (w 8 (q : Nat)) v4) 1 = if foV w q k = true then 1 else 0 := by
      have h8 : w 8 (q : Nat) = ((w 8 (q : Nat)).toNat : Nat) := by omega
      rw [h4]
      unfold foV
      generalize (w 8 (q : Nat)).toNat = a at h8
      rw [h8]
      exact zshr_bit k (by omega) a (by omega)
    refine f173_5 ⟨fun z => absurd z (by omega), fun _ => ⟨by omega, fun b => go _ (fun c => absurd (by rw [hat, c]; rfl) b) (same fun c => b (by rw [hat, c.1]; rfl)), fun b => ?_⟩⟩
    have b : pl x k = 4 := by have := Classical.not_not.mp b; rw [hat] at this; omega
    refine ⟨fun c => ⟨by omega, fun e => ⟨by omega, fun g => go _ (fun _ _ => ?_) (same fun y => g (by rw [a5, h4]; exact y.2.2)), fun g => go _ (fun _ _ => ?_) ⟨fun _ => ⟨k, by omega, b, by omega, ?_⟩, fun _ => by decide⟩⟩, fun e => h0 fun z => ?_⟩, fun c => go _ (fun _ y => absurd (by omega) y) (same fun y => y.2.1 (by omega))⟩
    · rw [a6, hbit] at e
      by_cases u : foV w q k = true
      · rw [if_pos u] at e; exact absurd rfl e
      · simpa using u
    · rw [a6, hbit] at e
      by_cases u : foV w q k = true
      · rw [if_pos u] at e; exact absurd rfl e
      · simpa using u
    · have := Classical.not_not.mp g
      rw [a5] at this
      omega
    · have e := Classical.not_not.mp e
      rw [a6, hbit, z.1 k (by omega) b (by omega)] at e
      exact absurd e (by decide)
theorem i173 {w : Pl} {t n x p q : Nat} {P : Int → Pl → Prop} (hd : 1 ≤ d) (hk : wOk w t n) (hm : Mst w t n s) (hx : mx n x s) (hq : q < n) (h1 : boardV w n x p q → P 1 s) (h0 : ¬ boardV w n x p q → P 0 s) : Ev xs L T0 106 d 173 [rf 73, it (q : Nat), it (p : Nat)] s (qi P) :=
  e173 hd (f173_0 (l173 hk hm hx hq h1 h0 n 0 _ _ (by omega) rfl (fun r hr => absurd hr (by omega)) ⟨fun h => absurd rfl h, fun ⟨r, hr, _⟩ => absurd hr (by omega)⟩))
theorem l175 {w : Pl} {t n x l : Nat} {P : Int → Pl → Prop} (hn : n ≤ 6) (hm : Mst w t n s) (hx : mx n x s) (h1 : (∃ r, r < n ∧ pl x r = l ∧ uA (w 3 r) 2 = true) → P 1 s) (h0 : ¬ (∃ r, r < n ∧ pl x r = l ∧ uA (w 3 r) 2 = true) → P 0 s) : ∀ (j k : Nat) (v2 : Int), k + j = n → v2 = (k : Nat) → (∀ r, r < k → ¬ (pl x r = l ∧ uA (w 3 r) 2 = true)) → Fr xs L T0 106 d 175 2 [some (rf 73), some (it (l : Nat)), some (it v2)] [] s (qi P) := by
  have e3 : s 72 3 = (n : Nat) := hm.2.2.1.2
  intro j
  induction j with
  | zero =>
    intro k v3 hk h3 hr
    refine f175_2 ⟨fun _ => h0 ?_, fun z => absurd (by omega) z⟩
    rintro ⟨r, a, b⟩
    exact hr r (by omega) b
  | succ j ih =>
    intro k v3 hk h3 hr
    have z3 : zw (v3 + 1) = ((k + 1 : Nat) : Int) := by rw [zw_id (by omega) (by omega)]; omega
    have go : (¬ (pl x k = l ∧ uA (w 3 k) 2 = true)) → Fr xs L T0 106 d 175 42 [some (rf 73), some (it (l : Nat)), some (it v3)] [] s (qi P) := fun hh => f175_42 (by
      rw [z3]
      refine ih (k + 1) _ (by omega) rfl fun r hr2 => ?_
      by_cases e : r = k
      · subst e; exact hh
      · exact hr r (by omega))
    obtain ⟨a1, _⟩ := hm.2.2.2.1 k (by omega)
    rw [uA2, decide_eq_true_eq] at go
    have hat : s 75 v3 = (pl x k : Nat) := by rw [h3]; exact hx.2 k (by omega)
    have hkd : s 74 v3 = w 3 k := by rw [h3]; exact a1
    refine f175_2 ⟨fun z => absurd z (by omega), fun _ => ⟨by omega, ?_⟩⟩
    rw [hat, hkd]
    refine ⟨fun b => go fun y => b (by rw [y.1]), fun b => ⟨by omega, fun c => h1 ⟨k, by omega, by omega, by rw [uA2]; simp [c]⟩, fun c => ⟨by omega, fun e => go fun y => ?_, fun e => h1 ⟨k, by omega, by omega, by rw [uA2]; simp [Classical.not_not.mp e]⟩⟩⟩⟩
    exact y.2.elim c e
theorem i174 {w : Pl} {t n x l : Nat} {P : Int → Pl → Prop} (hd : 2 ≤ d) (hn : n ≤ 6) (hm : Mst w t n s) (hx : mx n x s) (h1 : standV w n (fun r => decide (pl x r = l)) → P 1 s) (h0 : ¬ standV w n (fun r => decide (pl x r = l)) → P 0 s) : Ev xs L T0 106 d 174 [rf 73, it (l : Nat)] s (qi P) := by
  refine e174 (by omega) (f174_0 ((m138 n hm.2.2.1.2 hn (by omega)).i ?_))
  rintro r2 s1 ⟨rfl, rfl⟩
  have ec : cnt (fun p => decide (s1 75 p = (l : Nat))) n = cnt (fun r => decide (pl x r = l)) n := cnt_cong fun r hr => by rw [hx.2 r hr, decide_eq_decide]; omega
  rw [ec]
  refine ⟨fun b => f174_17 (h1 fun c => absurd (by rw [c]; rfl) b), fun b => e175 (by omega) (f175_0 (l175 hn hm hx (fun z => ⟨fun _ => h0 fun y => ?_, fun c => absurd (by decide) c⟩) (fun z => ⟨fun c => absurd rfl c, fun _ => f174_17 (h1 fun _ r hr hf => ?_)⟩) n 0 _ (by omega) rfl (fun r hr => absurd hr (by omega))))⟩
  · obtain ⟨r, c1, c2, c3⟩ := z
    have b := Classical.not_not.mp b
    have := y (by omega) r c1 (by simp [c2])
    rw [this] at c3
    cases c3
  · cases hu : uA (w 3 r) 2 with
    | false => rfl
    | true => exact absurd ⟨r, hr, by simpa using hf, hu⟩ z
theorem i176 {w : Pl} {t n x p q : Nat} {P : Int → Pl → Prop} (hd : 4 ≤ d) (hk : wOk w t n) (hm : Mst w t n s) (hx : mx n x s) (hp : p < 6) (hq : q < 6) (h1 : swp w t n x p q → ∀ s1, kG s s1 → P 1 s1) (h0 : ¬ swp w t n x p q → ∀ s1, kG s s1 → P 0 s1) : Ev xs L T0 106 d 176 [rf 73, it (p : Nat), it (q : Nat)] s (qi P) := by
  have hk2 := hk
  obtain ⟨⟨hn1, hn⟩, ⟨ht, hg⟩, hpp, _⟩ := hk
  have e3 : s 72 3 = (n : Nat) := hm.2.2.1.2
  have hb := bt_lt x
  refine e176 (by omega) (f176_0 (i135 (by omega) (by omega) (fun hp1 => ⟨fun z => absurd z (by decide), fun _ => i135 (by omega) (by omega) (fun hq1 => ⟨fun z => absurd z (by decide), fun _ => ⟨by omega, ?_⟩⟩) (fun hq1 => ⟨fun _ => h0 (fun z => hq1 (by have := z.1.2; omega)) s (kG.refl s), fun z => absurd rfl z⟩)⟩) (fun hp1 => ⟨fun _ => h0 (fun z => hp1 (by have := z.1.1; omega)) s (kG.refl s), fun z => absurd rfl z⟩)))
  have hp2 : p < n := by omega
  have hq2 : q < n := by omega
  rw [hx.2 p hp2, hx.2 q hq2, hx.1]
  refine ⟨fun c => h0 (fun z => c (by rw [z.2.1.1]; rfl)) s (kG.refl s), fun c => ⟨by omega, fun e => ?_, fun e => h0 (fun z => e (by rw [z.2.1.2])) s (kG.refl s)⟩⟩
  have c1 : pl x p = 4 := by omega
  have c2 : pl x q = bt x := by omega
  have hpq : p ≠ q := fun e => by rw [e] at c1; omega
  refine i164 ht (by omega) hm.2.2.1.1 hm.2.1.1 hm.2.1.2.1 hm.2.1.2.2 fun s2 hs2 => ?_
  have ew : (if lawV (s (22 + 4 * t)) (s (23 + 4 * t)) (nm6 p q (bt x : Nat) 0 0 0) 0 = 0 then (0 : Int) else 1) = if mayV w t p q (bt x) = true then 1 else 0 := by
    rw [hm.1 _ (by omega) (stc22 t ht).1, hm.1 _ (by omega) (stc22 t ht).2]
    unfold mayV
    by_cases a : lawV (w (22 + 4 * t)) (w (23 + 4 * t)) (nm6 p q (bt x : Nat) 0 0 0) 0 = 0
    · rw [if_pos a, if_neg (by simp [a])]
    · rw [if_neg a, if_pos (by simp [a])]
  rw [ew]
  have hm2 := hs2.mst hm
  have hx2 := hs2.mx hx
  by_cases g : mayV w t p q (bt x) = true
  · rw [if_pos g]
    refine ⟨fun z => absurd z (by decide), fun _ => i172 (by omega) hn hm2 hx2 hp2 (fun g2 => ⟨fun z => absurd z (by decide), fun _ => i173 (by omega) hk2 hm2 hx2 hq2 (fun g3 => ⟨fun _ => ?_, fun z => absurd (by decide) z⟩) (fun g3 => ⟨fun z => absurd rfl z, fun _ => h0 (fun z => g3 z.2.2.2.2.1) s2 hs2⟩)⟩) (fun g2 => ⟨fun _ => h0 (fun z => g2 z.2.2.2.1) s2 hs2, fun z => absurd rfl z⟩)⟩
    refine e177 (by omega) (f177_0 ⟨by omega, by omega, ?_⟩)
    rw [hx2.1]
    have hk3 : ∀ c i, c ≠ 75 → (zup (zup s2 75 (p : Nat) ((bt x : Nat) : Int)) 75 (q : Nat) 4) c i = s2 c i := by
      intro c i hc
      rw [zg, if_neg (by simp [hc]), zg, if_neg (by simp [hc])]
    have hx3 : mx n (swd x p q) (zup (zup s2 75 (p : Nat) ((bt x : Nat) : Int)) 75 (q : Nat) 4) := by
      refine ⟨by rw [hk3 72 2 (by decide), swd_bt]; exact hx2.1, fun r hr => ?_⟩
      rw [swd_pl (by omega), zg, zg]
      unfold swf
      by_cases a : r = q
      · subst a; simp
      · by_cases b : r = p
        · subst b
          have : ¬ ((r : Nat) : Int) = (q : Nat) := by omega
          simp [this, a, hx2.1]
        · have a2 : ¬ ((r : Nat) : Int) = (q : Nat) := by omega
          have b2 : ¬ ((r : Nat) : Int) = (p : Nat) := by omega
          simp [a, b, a2, b2, hx2.2 r hr]
    have hm3 : Mst w t n (zup (zup s2 75 (p : Nat) ((bt x : Nat) : Int)) 75 (q : Nat) 4) := cMst (fun c i hm => by have := mMs_out hm; exact hk3 c i (by omega)) hm2
    rw [hk3 72 2 (by decide), hx2.1]
    have back : ∀ v : Int, v = 0 ∨ v = 1 → (∀ s1, kG s s1 → P v s1) → Ev xs L T0 106 (d - 1) 177 [rf 73, it (q : Nat), it (p : Nat)] (zup (zup s2 75 (p : Nat) ((bt x : Nat) : Int)) 75 (q : Nat) 4) (qv fun s14 => (v = 0 ∨ v = 1) ∧ P v s14) := by
      intro v hv hp9
      refine e177 (by omega) (f177_0 ⟨by omega, by omega, hv, hp9 _ ?_⟩)
      intro c i b1 b2
      rw [zg, zg]
      by_cases a : c = 75
      · subst a
        by_cases a1 : i = (p : Nat)
        · subst a1
          rw [if_pos ⟨rfl, rfl⟩, hx.2 p hp2]
          omega
        · rw [if_neg (fun z => a1 z.2)]
          by_cases a2 : i = (q : Nat)
          · subst a2
            rw [if_pos ⟨rfl, rfl⟩, hk3 72 2 (by decide), hx2.1, hx.2 q hq2, c2]
          · rw [if_neg (fun z => a2 z.2), zg, if_neg (fun z => a2 z.2), zg, if_neg (fun z => a1 z.2)]
            exact hs2 75 i (by decide) (by decide)
      · rw [if_neg (fun z => a z.1), if_neg (fun z => a z.1), hk3 c i a]
        exact hs2 c i b1 b2
    refine i174 (by omega) hn hm3 hx3 (fun y => ?_) (fun y => ?_)
    · exact back 1 (Or.inr rfl) (h1 ⟨⟨hp2, hq2⟩, ⟨c1, c2⟩, g, g2, g3, y⟩)
    · exact back 0 (Or.inl rfl) (h0 fun z => y z.2.2.2.2.2)
  · rw [if_neg g]
    exact ⟨fun _ => h0 (fun z => g z.2.2.1) s2 hs2, fun z => absurd rfl z⟩
