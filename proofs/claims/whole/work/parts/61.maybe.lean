variable {xs : Nat → Int} {L : Nat} {d : Nat} {s : Pl}
theorem i43 {w : Pl} {n x p : Nat} {P : Int → Pl → Prop} (hd : 1 ≤ d) (hn : n ≤ 6) (hp : p < n) (hx : lkk w n x s) (h1 : pl x p = 4 → P 1 s) (h0 : ¬ pl x p = 4 → P 0 s) : Ev xs L T0 106 d 43 [rf 58, it (p : Nat)] s (qi P) := by
  refine e43 hd (f43_0 ?_)
  rw [hx.2.1, tbn hn (by omega)]
  by_cases h : pl x p = 4
  · rw [if_pos (by simp [h, hp])]
    exact ⟨fun e => absurd e (by decide), fun _ => h1 h⟩
  · rw [if_neg (by simp [h])]
    exact ⟨fun _ => h0 h, fun e => absurd rfl e⟩
theorem i45 {w : Pl} {n x p q : Nat} {P : Int → Pl → Prop} (hd : 2 ≤ d) (hw : sW w s) (hn1 : w 1 1 = (n : Nat)) (hn : n ≤ 6) (hp : p < n) (hq : q < n) (hx : x < 62500) (hb : s 57 11 = (bt x : Nat)) (h4 : pl x p = 4) (hq4 : pl x q = bt x) (h : P (swd x p q : Nat) s) : Ev xs L T0 106 d 45 [rf 58, it (x : Nat), it (p : Nat), it (q : Nat)] s (qi P) := by
  have e1 : s 1 1 = (n : Nat) := by rw [hw 1 rfl]; exact hn1
  refine e45 (by omega) (f45_0 (i2 (by omega) (by omega) (fun _ => ⟨fun e => absurd e (by decide), fun _ => i2 (by omega) (by omega) (fun _ => ⟨fun _ => ⟨by omega, by omega, ?_⟩, fun e => absurd (by decide) e⟩) (fun e => absurd (by omega) e)⟩) (fun e => absurd (by omega) e)))
  rw [hb, stp6_giv q (by omega), stp6_giv p (by omega), swd_int hx (by omega) (by omega) h4 hq4]
  exact h
theorem i46 {x l : Nat} {P : Int → Pl → Prop} (hd : 1 ≤ d) (hx : x < 62500) (hl : l < 4) (hb : s 57 11 = (bt x : Nat)) (h : P (rwd x l : Nat) s) : Ev xs L T0 106 d 46 [rf 58, it (x : Nat), it (l : Nat)] s (qi P) := by
  refine e46 hd (f46_0 ?_)
  rw [hb, rwd_int hx hl]
  exact h
theorem i44 {w : Pl} {n x p : Nat} {P : Int → Pl → Prop} (hd : 2 ≤ d) (hw : sW w s) (hn1 : w 1 1 = (n : Nat)) (hn : n ≤ 6) (hp : p < n) (hx : x < 62500) (h : P (pl x p : Nat) s) : Ev xs L T0 106 d 44 [rf 58, it (x : Nat), it (p : Nat)] s (qi P) := by
  have e1 : s 1 1 = (n : Nat) := by rw [hw 1 rfl]; exact hn1
  refine e44 (by omega) (f44_0 (i2 (by omega) (by omega) (fun _ => ⟨fun _ => ⟨by omega, ?_, ?_⟩, fun e => absurd (by decide) e⟩) (fun e => absurd (by omega) e)))
  · rw [stp6_giv p (by omega)]
    have : 0 < 5 ^ p := Nat.pos_of_ne_zero (by simp)
    unfold stp6
    omega
  · have hs : 0 < stp6 p ∧ stp6 p < 2147483648 := by
      have hp6 : p < 6 := by omega
      unfold stp6
      rcases lt6 hp6 with rfl | rfl | rfl | rfl | rfl | rfl <;> decide
    rw [stp6_giv p (by omega), zdiv_nat (by omega) hs.1 hs.2, show (5 : Int) = ((5 : Nat) : Int) from rfl, zrem_nat (Nat.lt_of_le_of_lt (Nat.div_le_self _ _) (by omega)) (by decide) (by decide)]
    exact h
theorem stand_swd {w : Pl} {n x p q : Nat} (hn : n ≤ 6) (hpq : p ≠ q) : standV w n (fun r => decide (pl (swd x p q) r = bt x)) ↔ standV w n (fun r => (decide (pl x r = bt x) && decide (r ≠ q)) || decide (r = p)) := by
  have hb := bt_lt x
  have e : ∀ r, r < n → decide (pl (swd x p q) r = bt x) = ((decide (pl x r = bt x) && decide (r ≠ q)) || decide (r = p)) := by
    intro r hr
    rw [swd_pl (by omega)]
    unfold swf
    by_cases h1 : r = q
    · rw [if_pos h1]
      have h2 : ¬ 4 = bt x := by omega
      have h3 : ¬ r = p := fun e => hpq (by omega)
      simp [h1, h2]
      intro e; exact hpq e.symm
    · rw [if_neg h1]
      by_cases h2 : r = p
      · rw [if_pos h2]; simp [h2]
      · rw [if_neg h2]; simp [h1, h2]
  unfold standV
  rw [cnt_cong (fun r hr => e r hr)]
  constructor
  · intro h hc r hr hf
    exact h hc r hr ((e r hr).trans hf)
  · intro h hc r hr hf
    exact h hc r hr ((e r hr).symm.trans hf)
theorem q47c {w : Pl} {t n p : Nat} {f : Nat → Bool} {P : Int → Pl → Prop} (hd : 2 ≤ d) (hn : n ≤ 6) (hp : p < n) (hl : Lrn w t n s) {v2 v4 v5 v6 vs : Int} (h1 : v5 ≠ 0 → v6 ≠ 0 → vs ≠ 0 → standV w n (fun r => f r || decide (r = p)) → P 1 s) (h0 : ¬ (v5 ≠ 0 ∧ v6 ≠ 0 ∧ vs ≠ 0 ∧ standV w n (fun r => f r || decide (r = p))) → P 0 s) : Fr xs L T0 106 d 47 194 [some (rf 58), some (it (p : Nat)), some (it v2), some (it (btn f n : Nat)), some (it v4), some (it v5), some (it v6), none] [it vs] s (qi P) := by
  refine f47_194 ⟨fun a => h0 (fun z => z.1 a), fun a => ⟨fun b => h0 (fun z => z.2.1 b), fun b => ⟨fun c => h0 (fun z => z.2.2.1 c), fun c => ?_⟩⟩⟩
  rw [or_btn hn hp]
  exact i48 hd hn hl (fun e => ⟨fun z => absurd z (by decide), fun _ => h1 a b c e⟩) (fun e => ⟨fun _ => h0 (fun z => e z.2.2.2), fun z => absurd rfl z⟩)
theorem q47b {w : Pl} {t n x p q : Nat} {P : Int → Pl → Prop} (hd : 2 ≤ d) (hk : wOk w t n) (hw : sW w s) (hp : p < n) (hq : q < n) (hpq : p ≠ q) (hl : Lrn w t n s) {v5 vs : Int} (h1 : v5 ≠ 0 → vs ≠ 0 → boardV w n x p q → standV w n (fun r => decide (pl (swd x p q) r = bt x)) → P 1 s) (h0 : ¬ (v5 ≠ 0 ∧ vs ≠ 0 ∧ boardV w n x p q ∧ standV w n (fun r => decide (pl (swd x p q) r = bt x))) → P 0 s) : Fr xs L T0 106 d 47 144 [some (rf 58), some (it (p : Nat)), some (it (q : Nat)), some (it (btn (fun r => decide (pl x r = bt x) && decide (r ≠ q)) n : Nat)), some (it (btn (fun r => decide (pl x r = 4) && decide (r ≠ p)) n : Nat)), some (it v5), none, none] [it vs] s (qi P) := by
  obtain ⟨⟨hn1, hn⟩, _, hpp, _⟩ := hk
  have hq9 := (hpp q hq).2.2.2
  rw [stand_swd hn hpq] at h1 h0
  have e8 : s 8 (q : Nat) = ((w 8 (q : Nat)).toNat : Nat) := by rw [hw 8 rfl]; omega
  have key : zand (s 8 (q : Nat)) (btn (fun r => decide (pl x r = 4) && decide (r ≠ p)) n : Nat) = 0 ↔ ∀ r, r < n → pl x r = 4 → r ≠ p → foV w q r = false := by
    rw [e8, zand_dis (by omega) (btn_lt64 _ hn)]
    constructor
    · intro h r hr h4 hrp
      unfold foV
      cases hb : (w 8 (q : Nat)).toNat.testBit r with
      | false => rfl
      | true =>
        have := h r (by omega) hb
        rw [btn_bit] at this
        simp [hr, h4, hrp] at this
    · intro h r hr hb
      rw [btn_bit]
      by_cases a : r < n ∧ pl x r = 4 ∧ r ≠ p
      · have := h r a.1 a.2.1 a.2.2
        unfold foV at this
        rw [this] at hb
        cases hb
      · simp
        intro a1 a2
        exact Classical.byContradiction fun a3 => a ⟨a1, a2, a3⟩
  obtain ⟨o, ho⟩ : ∃ o : Nat, w 7 (q : Nat) = (o : Nat) := ⟨(w 7 (q : Nat)).toNat, by omega⟩
  have key2 : zand (zshr (btn (fun r => decide (pl x r = 4) && decide (r ≠ p)) n : Nat) (s 7 (q : Nat))) 1 = 0 ↔ ¬ ∃ r, r < n ∧ pl x r = 4 ∧ r ≠ p ∧ ((r : Nat) : Int) = w 7 q := by
    rw [hw 7 rfl, ho, tbn hn (by omega)]
    by_cases a : o < n ∧ pl x o = 4 ∧ o ≠ p
    · rw [if_pos (by simp [a.1, a.2.1, a.2.2])]
      exact ⟨fun e => absurd e (by decide), fun e => absurd ⟨o, a.1, a.2.1, a.2.2, rfl⟩ e⟩
    · rw [if_neg (by simp; intro a1 a2; exact Classical.byContradiction fun a3 => a ⟨a1, a2, a3⟩)]
      refine ⟨fun _ => ?_, fun _ => rfl⟩
      rintro ⟨r, b1, b2, b3, b4⟩
      have : r = o := by omega
      subst this
      exact a ⟨b1, b2, b3⟩
  have key3 : zand (zshr (s 57 10) (q : Nat)) 1 = 0 ↔ ¬ w 3 (q : Nat) = 5 := by
    rw [hl.2.1.2.2.2.2, tbn hn (by omega), uA5]
    by_cases a : w 3 (q : Nat) = 5
    · rw [if_pos (by simp [hq, a])]; simp [a]
    · rw [if_neg (by simp [a])]; simp [a]
  have fin : ∀ v6 : Int, (boardV w n x p q → v6 = 1) → (¬ boardV w n x p q → v6 = 0) → Fr xs L T0 106 d 47 194 [some (rf 58), some (it (p : Nat)), some (it (q : Nat)), some (it (btn (fun r => decide (pl x r = bt x) && decide (r ≠ q)) n : Nat)), some (it (btn (fun r => decide (pl x r = 4) && decide (r ≠ p)) n : Nat)), some (it v5), some (it vs), none] [it v6] s (qi P) := by
    intro v6 g1 g0
    refine q47c hd hn hp hl (fun a b c e => ?_) (fun z => h0 fun y => z ⟨y.1, y.2.1, ?_, y.2.2.2⟩)
    · exact h1 a b (Classical.byContradiction fun y => c (g0 y)) e
    · rw [g1 y.2.2.1]; decide
  refine f47_144 ⟨by omega, fun a => f47_193 (fin 0 (fun y => absurd (key.mpr y.1) a) (fun _ => rfl)), fun a => ?_⟩
  have a := Classical.not_not.mp a
  refine ⟨fun b => f47_189 (fin 1 (fun _ => rfl) (fun y => absurd ⟨key.mp a, fun z => absurd z (key3.mp b)⟩ y)), fun b => ⟨by omega, fun c => f47_193 (fin 0 (fun y => ?_) (fun _ => rfl)), fun c => f47_189 (fin 1 (fun _ => rfl) (fun y => absurd ⟨key.mp a, fun _ => ?_⟩ y))⟩⟩
  · have b5 : w 3 (q : Nat) = 5 := Classical.byContradiction fun z => b (key3.mpr z)
    exact absurd (y.2 b5) (key2.mp c)
  · exact Classical.byContradiction fun z => c (key2.mpr z)
theorem i47 {w : Pl} {t n x p q : Nat} {P : Int → Pl → Prop} (hd : 3 ≤ d) (hk : wOk w t n) (hw : sW w s) (hl : Lrn w t n s) (hx : lkk w n x s) (hp : p < 6) (hq : q < 6) (h1 : swp w t n x p q → P 1 s) (h0 : ¬ swp w t n x p q → P 0 s) : Ev xs L T0 106 d 47 [rf 58, it (p : Nat), it (q : Nat)] s (qi P) := by
  have hk2 := hk
  obtain ⟨⟨hn1, hn⟩, _, hpp, _⟩ := hk
  have e1 : s 1 1 = (n : Nat) := by rw [hw 1 rfl]; exact hn1
  have hb := bt_lt x
  refine e47 (by omega) (f47_0 (i2 (by omega) (by omega) (fun hp1 => ⟨fun z => absurd z (by decide), fun _ => i2 (by omega) (by omega) (fun hq1 => ⟨fun z => absurd z (by decide), fun _ => ?_⟩) (fun hq1 => ⟨fun _ => h0 fun z => hq1 (by have := z.1.2; omega), fun z => absurd rfl z⟩)⟩) (fun hp1 => ⟨fun _ => h0 fun z => hp1 (by have := z.1.1; omega), fun z => absurd rfl z⟩)))
  have hp2 : p < n := by omega
  have hq2 : q < n := by omega
  rw [hx.2.1, hx.2.2.1, hx.1, tbn hn hp, tbn hn hq]
  have z6 : zw (zw (6 * (p : Nat)) + (q : Nat)) = 6 * (p : Nat) + (q : Nat) := by rw [zw_id (x := 6 * ((p : Nat) : Int)) (by omega) (by omega), zw_id (by omega) (by omega)]
  rw [z6, clr_btn hn hq, clr_btn hn hp]
  by_cases c1 : pl x p = 4
  · rw [if_pos (by simp [hp2, c1])]
    refine ⟨fun z => absurd z (by decide), fun _ => ?_⟩
    by_cases c2 : pl x q = bt x
    · rw [if_pos (by simp [hq2, c2])]
      refine ⟨fun _ => ⟨by omega, ?_⟩, fun z => absurd (by decide) z⟩
      have hpq : p ≠ q := fun e => by rw [e] at c1; omega
      rw [hl.2.2.2 p q hp2 hq2, if_neg hpq, tbn (by decide) (by omega)]
      have gk : zand (zshr (s 57 9) (p : Nat)) 1 = 0 ↔ ¬ w 3 (p : Nat) = 4 := by
        rw [hl.2.1.2.2.2.1, tbn hn (by omega), uA4]
        by_cases a : w 3 (p : Nat) = 4
        · rw [if_pos (by simp [hp2, a])]; simp [a]
        · rw [if_neg (by simp [a])]; simp [a]
      have gg : zand (zshr (s 57 6) (p : Nat)) 1 = 0 ↔ ¬ w 3 (p : Nat) = 1 := by
        rw [hl.2.1.1, tbn hn (by omega), uA1]
        by_cases a : w 3 (p : Nat) = 1
        · rw [if_pos (by simp [hp2, a])]; simp [a]
        · rw [if_neg (by simp [a])]; simp [a]
      have gs : ((btn (fun r => decide (pl x r = bt x) && decide (r ≠ q)) n : Nat) : Int) = 0 ↔ ¬ ∃ r, r < n ∧ r ≠ q ∧ pl x r = bt x := by
        rw [show ((0 : Int) = ((0 : Nat) : Int)) from rfl, Int.ofNat_inj, btn_zero]
        constructor
        · rintro h ⟨r, a1, a2, a3⟩
          have := h r a1
          simp [a2, a3] at this
        · intro h r hr
          simp
          intro a3
          exact Classical.byContradiction fun a2 => h ⟨r, hr, a2, a3⟩
      have fin : ∀ v5 : Int, (mayV w t p q (bt x) = true → v5 = 1) → (¬ mayV w t p q (bt x) = true → v5 = 0) → Fr xs L T0 106 (d - 1) 47 95 [some (rf 58), some (it (p : Nat)), some (it (q : Nat)), some (it (btn (fun r => decide (pl x r = bt x) && decide (r ≠ q)) n : Nat)), some (it (btn (fun r => decide (pl x r = 4) && decide (r ≠ p)) n : Nat)), none, none, none] [it v5] s (qi P) := by
        intro v5 g1 g0
        have fin2 : ∀ vs : Int, (leaveV w n x p q → vs = 1) → (¬ leaveV w n x p q → vs = 0) → Fr xs L T0 106 (d - 1) 47 144 [some (rf 58), some (it (p : Nat)), some (it (q : Nat)), some (it (btn (fun r => decide (pl x r = bt x) && decide (r ≠ q)) n : Nat)), some (it (btn (fun r => decide (pl x r = 4) && decide (r ≠ p)) n : Nat)), some (it v5), none, none] [it vs] s (qi P) := by
          intro vs k1 k0
          refine q47b (by omega) hk2 hw hp2 hq2 hpq hl (fun a b c e => ?_) (fun z => h0 fun y => z ⟨?_, ?_, y.2.2.2.2.1, y.2.2.2.2.2⟩)
          · exact h1 ⟨⟨hp2, hq2⟩, ⟨c1, c2⟩, Classical.byContradiction fun y => a (g0 y), Classical.byContradiction fun y => b (k0 y), c, e⟩
          · rw [g1 y.2.2.1]; decide
          · rw [k1 y.2.2.2.1]; decide
        refine f47_95 ⟨fun a => f47_143 (fin2 0 (fun y => absurd (gk.mpr y.1) a) (fun _ => rfl)), fun a => ?_⟩
        have a := gk.mp (Classical.not_not.mp a)
        refine ⟨fun b => f47_139 (fin2 1 (fun _ => rfl) (fun y => absurd ⟨a, fun z => absurd z (gg.mp b)⟩ y)), fun b => ⟨by omega, ?_⟩⟩
        have b1 : w 3 (p : Nat) = 1 := Classical.byContradiction fun z => b (gg.mpr z)
        rw [hx.1, hw 4 rfl]
        refine ⟨fun c => f47_139 (fin2 1 (fun _ => rfl) (fun y => absurd ⟨a, fun _ z => absurd c z⟩ y)), fun c => ⟨fun e => f47_143 (fin2 0 (fun y => absurd (y.2 b1 c) (gs.mp e)) (fun _ => rfl)), fun e => f47_139 (fin2 1 (fun _ => rfl) (fun y => absurd ⟨a, fun _ _ => Classical.byContradiction fun z => e (gs.mpr z)⟩ y))⟩⟩
      by_cases c3 : mayV w t p q (bt x) = true
      · rw [if_pos (by simp [hb, c3])]
        exact ⟨fun z => absurd z (by decide), fun _ => fin 1 (fun _ => rfl) (fun z => absurd c3 z)⟩
      · rw [if_neg (by simp [c3])]
        exact ⟨fun _ => fin 0 (fun z => absurd z c3) (fun _ => rfl), fun z => absurd rfl z⟩
    · rw [if_neg (by simp [c2])]
      exact ⟨fun z => absurd rfl z, fun _ => h0 fun z => c2 z.2.1.2⟩
  · rw [if_neg (by simp [c1])]
    exact ⟨fun _ => h0 fun z => c1 z.2.1.1, fun z => absurd rfl z⟩
