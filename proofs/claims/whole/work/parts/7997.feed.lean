/-! feed -/
def bs9 (a b c e f : Int) (i : Nat) : Int := if i = 0 then a else if i = 1 then b else if i = 2 then c else if i = 3 then e else f
/-- i bytes of it are on the tape; cells kc (how many, at place kp) and kb -/
def FT (kc : Nat) (kp : Int) (kb : Nat) (g : Int → Int) (bs : Nat → Int) (n0 i : Nat) (s s1 : Pl) : Prop := ∀ c j, s1 c j = if c = kc ∧ j = kp then ((n0 + i : Nat) : Int) else if c = kb ∧ ((n0 : Nat) : Int) ≤ j ∧ j < ((n0 + i : Nat) : Int) then g (bs (j - (n0 : Nat)).toNat) else s c j
theorem FT.zero {kc kb n0 : Nat} {kp : Int} {g : Int → Int} {bs : Nat → Int} {s : Pl} (h : s kc kp = (n0 : Nat)) : FT kc kp kb g bs n0 0 s s := fun c j => by
  by_cases e : c = kc ∧ j = kp
  · rw [if_pos e, e.1, e.2, h]; rfl
  · rw [if_neg e, if_neg (by omega)]
theorem FT.step {kc kb n0 i : Nat} {kp : Int} {g : Int → Int} {bs : Nat → Int} {s s1 : Pl} (hk : kb ≠ kc) (h : FT kc kp kb g bs n0 i s s1) : FT kc kp kb g bs n0 (i + 1) s (zup (zup s1 kb ((n0 + i : Nat) : Int) (g (bs i))) kc kp ((n0 + (i + 1) : Nat) : Int)) := fun c j => by
  rw [zg]
  by_cases e : c = kc ∧ j = kp
  · rw [if_pos e, if_pos e]
  · rw [if_neg e, if_neg e, zg]
    by_cases e2 : c = kb ∧ j = ((n0 + i : Nat) : Int)
    · rw [if_pos e2, if_pos (by omega), e2.2, show (((n0 + i : Nat) : Int) - (n0 : Nat)).toNat = i from by omega]
    · rw [if_neg e2, h c j, if_neg e]
      by_cases e3 : c = kb ∧ ((n0 : Nat) : Int) ≤ j ∧ j < ((n0 + i : Nat) : Int)
      · rw [if_pos e3, if_pos (by omega)]
      · rw [if_neg e3, if_neg (by omega)]
variable {xs : Nat → Int} {L : Nat} {d : Nat} {s : Pl}
theorem i17f {n0 i : Nat} {bs : Nat → Int} {s0 : Pl} {P : Pl → Prop} (hd : 1 ≤ d) (h160 : n0 + i < 160) (hf : FT 53 1 54 id bs n0 i s0 s) (h : ∀ s1, FT 53 1 54 id bs n0 (i + 1) s0 s1 → P s1) : Ev xs L T0 106 d 17 [rf 54, it (bs i)] s (qv P) := by
  have e : s 53 1 = ((n0 + i : Nat) : Int) := by rw [hf 53 1, if_pos ⟨rfl, rfl⟩]
  have e2 : zup s 54 (s 53 1) (bs i) 53 1 = ((n0 + i : Nat) : Int) := by rw [zune _ _ _ (by decide)]; exact e
  have z1 : zw (((n0 + i : Nat) : Int) + 1) = ((n0 + (i + 1) : Nat) : Int) := by rw [zw_id (by omega) (by omega)]; omega
  refine e17 hd (f17_0 KR0 ⟨fun z => absurd z (by omega), fun _ => ⟨fun z => absurd z (by omega), fun _ => ⟨by omega, ?_⟩⟩⟩)
  rw [e2, e, z1]
  exact h _ (hf.step (by decide))
theorem i141f {n0 i : Nat} {bs : Nat → Int} {s0 : Pl} {P : Pl → Prop} (hd : 1 ≤ d) (h160 : n0 + i < 160) (hb : 0 ≤ bs i ∧ bs i ≤ 255) (hf : FT 72 12 81 zb8 bs n0 i s0 s) (h : ∀ s1, FT 72 12 81 zb8 bs n0 (i + 1) s0 s1 → P s1) : Ev xs L T0 106 d 141 [rf 73, it (bs i)] s (qv P) := by
  have e : s 72 12 = ((n0 + i : Nat) : Int) := by rw [hf 72 12, if_pos ⟨rfl, rfl⟩]
  have e2 : ∀ v, zup s 81 (s 72 12) v 72 12 = ((n0 + i : Nat) : Int) := fun v => by rw [zune _ _ _ (by decide)]; exact e
  have z1 : zw (((n0 + i : Nat) : Int) + 1) = ((n0 + (i + 1) : Nat) : Int) := by rw [zw_id (by omega) (by omega)]; omega
  have zb : zb8 (zb8 (bs i)) = zb8 (bs i) := by
    have := zb8_twice (bs i).toNat (by omega)
    rw [show (((bs i).toNat : Nat) : Int) = bs i from by omega] at this
    exact this
  refine e141 hd (f141_0 ⟨by omega, ?_⟩)
  rw [e2, e, z1, zb]
  exact h _ (hf.step (by decide))
theorem i140 {v : Int} {P : Int → Pl → Prop} (hd : 2 ≤ d) (h : 0 ≤ v ∧ v ≤ 255 → P 1 s) (h0 : ¬ (0 ≤ v ∧ v ≤ 255) → P 0 s) : Ev xs L T0 106 d 140 [it v] s (qi P) :=
  e140 (by omega) (f140_0 (i132 (by omega) (fun q => ⟨Or.inr rfl, h q⟩) (fun q => ⟨Or.inl rfl, h0 q⟩)))
/-- feed -/
theorem J86 {v a b c e f : Int} (hd : 8 ≤ d) (hI : Inv s) : Ev xs L T0 106 d 86 [rf 1, it v, it a, it b, it c, it e, it f] s (qi fun r s1 => Ev xs L T0 106 d 142 [rf 73, it v, it a, it b, it c, it e, it f] s1 (qi fun r2 s2 => r2 = r ∧ Inv s2)) := by
  obtain ⟨t1, t2, t3, t4⟩ := hI.1.2.2.2.2.2.1
  obtain ⟨n0, hn0⟩ : ∃ n : Nat, s 53 1 = (n : Nat) := ⟨(s 53 1).toNat, by omega⟩
  have bad2 : ¬ ((1 ≤ v ∧ v ≤ 5) ∧ (0 ≤ a ∧ a ≤ 255) ∧ (0 ≤ b ∧ b ≤ 255) ∧ (0 ≤ c ∧ c ≤ 255) ∧ (0 ≤ e ∧ e ≤ 255) ∧ 0 ≤ f ∧ f ≤ 255) → Ev xs L T0 106 d 142 [rf 73, it v, it a, it b, it c, it e, it f] s (qi fun r2 s2 => r2 = -2 ∧ Inv s2) := fun hb => by
    have out : ∀ r : Int, r = 0 → (r = 0 → (-2 : Int) = -2 ∧ Inv s) := fun _ _ _ => ⟨rfl, hI⟩
    refine e142 (by omega) (f142_0 (i132 (by omega) (fun h1 => ⟨fun y => absurd y (by decide), fun _ => i140 (by omega) (fun h2 => ⟨fun y => absurd y (by decide), fun _ => i140 (by omega) (fun h3 => ⟨fun y => absurd y (by decide), fun _ => i140 (by omega) (fun h4 => ⟨fun y => absurd y (by decide), fun _ => i140 (by omega) (fun h5 => ⟨fun y => absurd y (by decide), fun _ => i140 (by omega) (fun h6 => absurd ⟨h1, h2, h3, h4, h5, h6⟩ hb) (fun _ => ⟨fun y => absurd rfl y, fun _ => ⟨rfl, hI⟩⟩)⟩) (fun _ => ⟨fun _ => ⟨rfl, hI⟩, fun y => absurd rfl y⟩)⟩) (fun _ => ⟨fun _ => ⟨rfl, hI⟩, fun y => absurd rfl y⟩)⟩) (fun _ => ⟨fun _ => ⟨rfl, hI⟩, fun y => absurd rfl y⟩)⟩) (fun _ => ⟨fun _ => ⟨rfl, hI⟩, fun y => absurd rfl y⟩)⟩) (fun _ => ⟨fun _ => ⟨rfl, hI⟩, fun y => absurd rfl y⟩)))
  refine e86 (by omega) (f86_0 ⟨fun z => bad2 (by omega), fun z1 => ⟨fun z => bad2 (by omega), fun z2 => i127 (by omega) (fun h1 => ⟨fun y => absurd y (by decide), fun _ => i127 (by omega) (fun h2 => ⟨fun y => absurd y (by decide), fun _ => i127 (by omega) (fun h3 => ⟨fun y => absurd y (by decide), fun _ => i127 (by omega) (fun h4 => ⟨fun y => absurd y (by decide), fun _ => i127 (by omega) (fun h5 => ⟨fun _ => ?_, fun y => absurd (by decide) y⟩) (fun q => ⟨fun y => absurd rfl y, fun _ => bad2 (by omega)⟩)⟩) (fun q => ⟨fun _ => bad2 (by omega), fun y => absurd rfl y⟩)⟩) (fun q => ⟨fun _ => bad2 (by omega), fun y => absurd rfl y⟩)⟩) (fun q => ⟨fun _ => bad2 (by omega), fun y => absurd rfl y⟩)⟩) (fun q => ⟨fun _ => bad2 (by omega), fun y => absurd rfl y⟩)⟩⟩)
  obtain ⟨k, rfl⟩ : ∃ k : Nat, v = (k : Nat) := ⟨v.toNat, by omega⟩
  have hk : 1 ≤ k ∧ k ≤ 5 := by omega
  have hbs : ∀ i, 0 ≤ bs9 a b c e f i ∧ bs9 a b c e f i ≤ 255 := fun i => by
    unfold bs9
    split
    · exact h1
    · split
      · exact h2
      · split
        · exact h3
        · split
          · exact h4
          · exact h5
  have model : ∀ (s1 : Pl) (P : Int → Pl → Prop), s1 72 12 = (n0 : Nat) → (¬ n0 + k ≤ 160 → P (-4) s1) → (n0 + k ≤ 160 → ∀ s2, FT 72 12 81 zb8 (bs9 a b c e f) n0 k s1 s2 → P ((n0 + k : Nat) : Int) s2) → Ev xs L T0 106 d 142 [rf 73, it (k : Nat), it a, it b, it c, it e, it f] s1 (qi P) := by
    intro s1 P h70 hbig hok
    have zz : ∀ _ : Unit, zw ((n0 : Nat) + (k : Nat)) = ((n0 + k : Nat) : Int) := fun _ => by rw [zw_id (by omega) (by omega)]; omega
    refine e142 (by omega) (f142_0 (i132 (by omega) (fun _ => ⟨fun y => absurd y (by decide), fun _ => i140 (by omega) (fun _ => ⟨fun y => absurd y (by decide), fun _ => i140 (by omega) (fun _ => ⟨fun y => absurd y (by decide), fun _ => i140 (by omega) (fun _ => ⟨fun y => absurd y (by decide), fun _ => i140 (by omega) (fun _ => ⟨fun y => absurd y (by decide), fun _ => i140 (by omega) (fun _ => ⟨fun _ => ?_, fun y => absurd (by decide) y⟩) (fun q => absurd h5 q)⟩) (fun q => absurd h4 q)⟩) (fun q => absurd h3 q)⟩) (fun q => absurd h2 q)⟩) (fun q => absurd h1 q)⟩) (fun q => absurd (by omega) q)))
    rw [h70, zz ()]
    refine ⟨fun z => ?_, fun z => hbig (by omega)⟩
    have hle : n0 + k ≤ 160 := by omega
    have q113 : ∀ s2, FT 72 12 81 zb8 (bs9 a b c e f) n0 k s1 s2 → Fr xs L T0 106 (d - 1) 142 113 [some (rf 73), some (it (k : Nat)), some (it a), some (it b), some (it c), some (it e), some (it f)] [] s2 (qi P) := fun s2 g => f142_113 (by
      have e9 : s2 72 12 = ((n0 + k : Nat) : Int) := by rw [g 72 12, if_pos ⟨rfl, rfl⟩]
      rw [e9]; exact hok hle s2 g)
    have q102 : ∀ s2, FT 72 12 81 zb8 (bs9 a b c e f) n0 (min k 4) s1 s2 → Fr xs L T0 106 (d - 1) 142 102 [some (rf 73), some (it (k : Nat)), some (it a), some (it b), some (it c), some (it e), some (it f)] [] s2 (qi P) := fun s2 g => f142_102 ⟨fun y => q113 s2 (by rw [show min k 4 = k from by omega] at g; exact g), fun y => i141f (bs := bs9 a b c e f) (i := 4) (n0 := n0) (by omega) (by omega) (hbs 4) (by rw [show min k 4 = 4 from by omega] at g; exact g) fun s3 g3 => q113 s3 (by rw [show k = 4 + 1 from by omega]; exact g3)⟩
    have q91 : ∀ s2, FT 72 12 81 zb8 (bs9 a b c e f) n0 (min k 3) s1 s2 → Fr xs L T0 106 (d - 1) 142 91 [some (rf 73), some (it (k : Nat)), some (it a), some (it b), some (it c), some (it e), some (it f)] [] s2 (qi P) := fun s2 g => f142_91 ⟨fun y => q102 s2 (by rw [show min k 3 = min k 4 from by omega] at g; exact g), fun y => i141f (bs := bs9 a b c e f) (i := 3) (n0 := n0) (by omega) (by omega) (hbs 3) (by rw [show min k 3 = 3 from by omega] at g; exact g) fun s3 g3 => q102 s3 (by rw [show min k 4 = 3 + 1 from by omega]; exact g3)⟩
    have q80 : ∀ s2, FT 72 12 81 zb8 (bs9 a b c e f) n0 (min k 2) s1 s2 → Fr xs L T0 106 (d - 1) 142 80 [some (rf 73), some (it (k : Nat)), some (it a), some (it b), some (it c), some (it e), some (it f)] [] s2 (qi P) := fun s2 g => f142_80 ⟨fun y => q91 s2 (by rw [show min k 2 = min k 3 from by omega] at g; exact g), fun y => i141f (bs := bs9 a b c e f) (i := 2) (n0 := n0) (by omega) (by omega) (hbs 2) (by rw [show min k 2 = 2 from by omega] at g; exact g) fun s3 g3 => q91 s3 (by rw [show min k 3 = 2 + 1 from by omega]; exact g3)⟩
    refine i141f (bs := bs9 a b c e f) (i := 0) (n0 := n0) (by omega) (by omega) (hbs 0) (FT.zero h70) fun s3 g3 => ⟨fun y => q80 s3 (by rw [show min k 2 = 0 + 1 from by omega]; exact g3), fun y => i141f (bs := bs9 a b c e f) (i := 1) (n0 := n0) (by omega) (by omega) (hbs 1) g3 fun s4 g4 => q80 s4 (by rw [show min k 2 = 1 + 1 from by omega]; exact g4)⟩
  have zz : ∀ _ : Unit, zw (s 53 1 + (k : Nat)) = ((n0 + k : Nat) : Int) := fun _ => by rw [hn0, zw_id (by omega) (by omega)]; omega
  rw [zz ()]
  refine ⟨fun zle => ?_, fun zgt => model s _ (by omega) (fun _ => ⟨rfl, hI⟩) (fun q => absurd q (by omega))⟩
  have l : ∀ (j i : Nat) (s1 : Pl) (v7 : Int), i + j = k → v7 = (i : Nat) → FT 53 1 54 id (bs9 a b c e f) n0 i s s1 → Fr xs L T0 106 (d - 1) 86 72 [some (rf 1), some (it (k : Nat)), some (it a), some (it b), some (it c), some (it e), some (it f), some (it v7)] [] s1 (qi fun r s1 => Ev xs L T0 106 d 142 [rf 73, it (k : Nat), it a, it b, it c, it e, it f] s1 (qi fun r2 s2 => r2 = r ∧ Inv s2)) := by
    intro j
    induction j with
    | zero =>
      intro i s1 v7 hi h7 g
      have ek : i = k := by omega
      subst ek
      refine f86_72 ⟨fun _ => ?_, fun y => absurd (by omega) y⟩
      have e53 : s1 53 1 = ((n0 + i : Nat) : Int) := by rw [g 53 1, if_pos ⟨rfl, rfl⟩]
      rw [e53]
      refine model s1 _ ?_ (fun q => absurd (by omega) q) (fun _ s2 g2 => ⟨rfl, ?_⟩)
      · rw [g 72 12, if_neg (by decide), if_neg (by omega)]; omega
      · have ne : ∀ cc j, ¬ (cc = 53 ∧ j = 1 ∨ cc = 54 ∨ cc = 72 ∧ j = 12 ∨ cc = 81) → s2 cc j = s cc j := fun cc j q => by rw [g2 cc j, if_neg (by omega), if_neg (by omega), g cc j, if_neg (by omega), if_neg (by omega)]
        refine ⟨JJ.chg hI.1 ne (Or.inr (ne 0 9 (by omega))) (Or.inl fun c i m => by unfold mL at m; omega) (Or.inl fun c i m => by unfold mH at m; omega) (Or.inl fun c i m => by omega) (Or.inl fun c i m => by unfold mP at m; omega) (Or.inl fun c i m => by unfold mM at m; omega) (Or.inr ?_) (Or.inl fun c i m => by unfold mK at m; omega) (Or.inl fun c i m => by unfold mS at m; omega) (Or.inl fun c i m => by unfold mX at m; omega) (Or.inl fun c i m => by omega) (Or.inl fun c i m => by omega), hI.2.keep (fun c hc => funext fun i => ne c i (by omega)) (ne 0 9 (by omega))⟩
        have e70 : s2 72 12 = ((n0 + i : Nat) : Int) := by rw [g2 72 12, if_pos ⟨rfl, rfl⟩]
        have e532 : s2 53 1 = ((n0 + i : Nat) : Int) := by rw [g2 53 1, if_neg (by decide), if_neg (by omega)]; exact e53
        unfold vT
        rw [e70, e532]
        refine ⟨rfl, by omega, by omega, fun p q1 q2 => ?_⟩
        have ne54 : ∀ p : Int, p < (n0 : Nat) → s2 54 p = s 54 p := fun p q => by rw [g2 54 p, if_neg (by omega), if_neg (by omega), g 54 p, if_neg (by omega), if_neg (by omega)]
        have ne79 : ∀ p : Int, p < (n0 : Nat) → s2 81 p = s 81 p := fun p q => by rw [g2 81 p, if_neg (by omega), if_neg (by omega), g 81 p, if_neg (by omega), if_neg (by omega)]
        have e54 : s2 54 p = s1 54 p := by rw [g2 54 p, if_neg (by omega), if_neg (by omega)]
        by_cases ep : ((n0 : Nat) : Int) ≤ p
        · have w1 : s2 54 p = bs9 a b c e f (p - (n0 : Nat)).toNat := by rw [e54, g 54 p, if_neg (by omega), if_pos ⟨rfl, ep, q2⟩]; rfl
          have w2 : s2 81 p = zb8 (bs9 a b c e f (p - (n0 : Nat)).toNat) := by rw [g2 81 p, if_neg (by omega), if_pos ⟨rfl, ep, q2⟩]
          rw [w1, w2]
          exact ⟨(hbs _).1, (hbs _).2, rfl⟩
        · rw [ne54 p (by omega), ne79 p (by omega)]
          exact t4 p q1 (by omega)
    | succ j ih =>
      intro i s1 v7 hi h7 g
      subst h7
      have zi : ∀ _ : Unit, zw ((i : Nat) + 1) = ((i + 1 : Nat) : Int) := fun _ => by rw [zw_id (by omega) (by omega)]; omega
      have q125 : ∀ x : Int, x = bs9 a b c e f i → Fr xs L T0 106 (d - 1) 86 125 [some (rf 1), some (it (k : Nat)), some (it a), some (it b), some (it c), some (it e), some (it f), some (it (i : Nat))] [it x, rf 54] s1 (qi fun r s1 => Ev xs L T0 106 d 142 [rf 73, it (k : Nat), it a, it b, it c, it e, it f] s1 (qi fun r2 s2 => r2 = r ∧ Inv s2)) := fun x hx => f86_125 (by
        rw [hx, zi ()]
        exact i17f (n0 := n0) (by omega) (by omega) g fun s2 g2 => ih (i + 1) s2 _ (by omega) rfl g2)
      refine f86_72 ⟨fun y => absurd y (by omega), fun _ => ⟨fun y0 => ⟨fun y1 => ⟨fun y2 => ⟨fun y3 => q125 f ?_, fun y3 => q125 e ?_⟩, fun y2 => q125 c ?_⟩, fun y1 => q125 b ?_⟩, fun y0 => q125 a ?_⟩⟩
      · unfold bs9; rw [if_neg (by omega), if_neg (by omega), if_neg (by omega), if_neg (by omega)]
      · unfold bs9; rw [if_neg (by omega), if_neg (by omega), if_neg (by omega), if_pos (by omega)]
      · unfold bs9; rw [if_neg (by omega), if_neg (by omega), if_pos (by omega)]
      · unfold bs9; rw [if_neg (by omega), if_pos (by omega)]
      · unfold bs9; rw [if_pos (by omega)]
  exact l k 0 s _ (by omega) rfl (FT.zero hn0)
