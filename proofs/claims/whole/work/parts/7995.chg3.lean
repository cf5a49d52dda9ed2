/-! move, taken, feed -/
variable {xs : Nat → Int} {L : Nat} {d : Nat} {s : Pl}
/-- move -/
theorem J96 {a b c : Int} (hd : 8 ≤ d) (hI : Inv s) : Ev xs L T0 106 d 96 [rf 1, it a, it b, it c] s (qi fun r s1 => Ev xs L T0 106 d 182 [rf 73, it a, it b, it c] s1 (qi fun r2 s2 => r2 = r ∧ Inv s2)) := by
  obtain ⟨m1, m2, m3, m4⟩ := hI.1.2.2.2.2.1
  obtain ⟨m, hm⟩ : ∃ m : Nat, s 68 4 = (m : Nat) := ⟨(s 68 4).toNat, by omega⟩
  have q : ∀ lim : Int, (a = 0 → lim = 3) → (a = 1 → lim = 5) → (¬ a = 0 → ¬ a = 1 → lim = 99) → Fr xs L T0 106 (d - 1) 96 19 [some (rf 1), some (it a), some (it b), some (it c), none] [it lim] s (qi fun r s1 => Ev xs L T0 106 d 182 [rf 73, it a, it b, it c] s1 (qi fun r2 s2 => r2 = r ∧ Inv s2)) := by
    intro lim l0 l1 l2
    have bad2 : ¬ ((0 ≤ a ∧ a ≤ 2) ∧ (0 ≤ b ∧ b ≤ lim) ∧ 0 ≤ c ∧ c ≤ 5) → Ev xs L T0 106 d 182 [rf 73, it a, it b, it c] s (qi fun r2 s2 => r2 = -2 ∧ Inv s2) := by
      intro hb
      have q30 : (0 ≤ a ∧ a ≤ 2) → Fr xs L T0 106 (d - 1) 182 30 [some (rf 73), some (it a), some (it b), some (it c)] [it lim, it 0, it b] s (qi fun r2 s2 => r2 = -2 ∧ Inv s2) := fun ha => f182_30 (i132 (by omega) (fun z => ⟨fun y => absurd y (by decide), fun _ => i132 (by omega) (fun z2 => absurd ⟨ha, z, z2⟩ hb) (fun _ => ⟨fun y => absurd rfl y, fun _ => ⟨rfl, hI⟩⟩)⟩) (fun _ => ⟨fun _ => ⟨rfl, hI⟩, fun y => absurd rfl y⟩))
      refine e182 (by omega) (f182_0 (i132 (by omega) (fun ha => ⟨fun y => absurd y (by decide), fun _ => ⟨fun z0 => ⟨fun z1 => ?_, fun z1 => ?_⟩, fun z0 => ?_⟩⟩) (fun _ => ⟨fun _ => ⟨rfl, hI⟩, fun y => absurd rfl y⟩)))
      · have := q30 ha; rw [l2 z0 z1] at this; exact this
      · have := q30 ha; rw [l1 (by omega)] at this; exact this
      · have := q30 ha; rw [l0 (by omega)] at this; exact this
    refine f96_19 ⟨fun z => bad2 (by omega), fun z1 => ⟨fun z => bad2 (by omega), fun z2 => ⟨fun z => bad2 (by omega), fun z3 => ⟨fun z => bad2 (by omega), fun z4 => ⟨fun z => bad2 (by omega), fun z5 => ⟨fun z6 => ?_, fun z => bad2 (by omega)⟩⟩⟩⟩⟩⟩
    have model : ∀ (s1 : Pl) (P : Int → Pl → Prop), s1 72 29 = (m : Nat) → (m = 16 → P (-4) s1) → (m < 16 → P (m : Nat) (zup (zup (zup (zup s1 89 (m : Nat) a) 90 (m : Nat) b) 91 (m : Nat) c) 72 29 ((m + 1 : Nat) : Int))) → Ev xs L T0 106 d 182 [rf 73, it a, it b, it c] s1 (qi P) := by
      intro s1 P h29 h16 hlt
      have q30 : Fr xs L T0 106 (d - 1) 182 30 [some (rf 73), some (it a), some (it b), some (it c)] [it lim, it 0, it b] s1 (qi P) := by
        refine f182_30 (i132 (by omega) (fun _ => ⟨fun y => absurd y (by decide), fun _ => i132 (by omega) (fun _ => ⟨fun _ => ⟨fun y => ?_, fun y => h16 (by omega)⟩, fun y => absurd (by decide) y⟩) (fun y => absurd (by omega) y)⟩) (fun y => absurd (by omega) y))
        have t1 : ∀ (S : Pl) (i v : Int), zup S 89 i v 72 29 = S 72 29 := fun S i v => by rw [zune _ _ _ (by decide)]
        have t2 : ∀ (S : Pl) (i v : Int), zup S 90 i v 72 29 = S 72 29 := fun S i v => by rw [zune _ _ _ (by decide)]
        have t3 : ∀ (S : Pl) (i v : Int), zup S 91 i v 72 29 = S 72 29 := fun S i v => by rw [zune _ _ _ (by decide)]
        have t4 : ∀ (S : Pl) (v : Int), zup S 72 29 v 72 29 = v := fun S v => by rw [zg, if_pos ⟨rfl, rfl⟩]
        have z1 : zw ((m : Nat) + 1) = ((m + 1 : Nat) : Int) := by rw [zw_id (by omega) (by omega)]; omega
        have z2 : zw (((m + 1 : Nat) : Int) - 1) = (m : Nat) := by rw [zw_id (by omega) (by omega)]; omega
        simp only [t1, t2, t3, t4, h29, z1, z2]
        exact ⟨by omega, by omega, by omega, hlt (by omega)⟩
      refine e182 (by omega) (f182_0 (i132 (by omega) (fun _ => ⟨fun y => absurd y (by decide), fun _ => ⟨fun z0 => ⟨fun z1 => ?_, fun z1 => ?_⟩, fun z0 => ?_⟩⟩) (fun y => absurd (by omega) y)))
      · rw [l2 z0 z1] at q30; exact q30
      · rw [l1 (by omega)] at q30; exact q30
      · rw [l0 (by omega)] at q30; exact q30
    refine ⟨fun zm => e73 (by omega) (f73_0 ⟨fun y => absurd y (by omega), fun _ => ⟨fun y => absurd y (by omega), fun _ => ?_⟩⟩), fun zm => model s _ (by omega) (fun _ => ⟨rfl, hI⟩) (fun y => absurd y (by omega))⟩
    have t1 : ∀ (S : Pl) (i v : Int), zup S 69 i v 68 4 = S 68 4 := fun S i v => by rw [zune _ _ _ (by decide)]
    have t2 : ∀ (S : Pl) (i v : Int), zup S 70 i v 68 4 = S 68 4 := fun S i v => by rw [zune _ _ _ (by decide)]
    have t3 : ∀ (S : Pl) (i v : Int), zup S 71 i v 68 4 = S 68 4 := fun S i v => by rw [zune _ _ _ (by decide)]
    have t4 : ∀ (S : Pl) (v : Int), zup S 68 4 v 68 4 = v := fun S v => by rw [zg, if_pos ⟨rfl, rfl⟩]
    have z1 : zw ((m : Nat) + 1) = ((m + 1 : Nat) : Int) := by rw [zw_id (by omega) (by omega)]; omega
    have z2 : zw (((m + 1 : Nat) : Int) - 1) = (m : Nat) := by rw [zw_id (by omega) (by omega)]; omega
    simp only [t1, t2, t3, t4, hm, z1, z2]
    refine ⟨by omega, by omega, by omega, model _ _ ?_ (fun y => absurd y (by omega)) (fun _ => ⟨rfl, ?_⟩)⟩
    · rw [zune _ _ _ (by decide), zune _ _ _ (by decide), zune _ _ _ (by decide), zune _ _ _ (by decide)]; omega
    · have at9 : ∀ cc i, (zup (zup (zup (zup (zup (zup (zup (zup s 69 (m : Nat) a) 70 (m : Nat) b) 71 (m : Nat) c) 68 4 ((m + 1 : Nat) : Int)) 89 (m : Nat) a) 90 (m : Nat) b) 91 (m : Nat) c) 72 29 ((m + 1 : Nat) : Int)) cc i = if cc = 68 ∧ i = 4 ∨ cc = 72 ∧ i = 29 then ((m + 1 : Nat) : Int) else if (cc = 69 ∨ cc = 89) ∧ i = (m : Nat) then a else if (cc = 70 ∨ cc = 90) ∧ i = (m : Nat) then b else if (cc = 71 ∨ cc = 91) ∧ i = (m : Nat) then c else s cc i := fun cc i => by
        simp only [zg]
        by_cases e0 : cc = 68 ∧ i = 4 ∨ cc = 72 ∧ i = 29
        · rw [if_pos e0]
          obtain ⟨rfl, rfl⟩ | ⟨rfl, rfl⟩ := e0 <;> simp
        · rw [if_neg e0]
          by_cases e1 : (cc = 69 ∨ cc = 89) ∧ i = (m : Nat)
          · rw [if_pos e1]
            obtain ⟨rfl | rfl, rfl⟩ := e1 <;> simp
          · rw [if_neg e1]
            by_cases e2 : (cc = 70 ∨ cc = 90) ∧ i = (m : Nat)
            · rw [if_pos e2]
              obtain ⟨rfl | rfl, rfl⟩ := e2 <;> simp
            · rw [if_neg e2]
              by_cases e3 : (cc = 71 ∨ cc = 91) ∧ i = (m : Nat)
              · rw [if_pos e3]
                obtain ⟨rfl | rfl, rfl⟩ := e3 <;> simp
              · rw [if_neg e3, if_neg (by omega), if_neg (by omega), if_neg (by omega), if_neg (by omega), if_neg (by omega), if_neg (by omega), if_neg (by omega), if_neg (by omega)]
      generalize (zup (zup (zup (zup (zup (zup (zup (zup s 69 (m : Nat) a) 70 (m : Nat) b) 71 (m : Nat) c) 68 4 ((m + 1 : Nat) : Int)) 89 (m : Nat) a) 90 (m : Nat) b) 91 (m : Nat) c) 72 29 ((m + 1 : Nat) : Int)) = S at *
      have ne : ∀ c i, ¬ (c = 68 ∧ i = 4 ∨ c = 72 ∧ i = 29 ∨ 69 ≤ c ∧ c ≤ 71 ∨ 89 ≤ c ∧ c ≤ 91) → S c i = s c i := fun c i q => by rw [at9, if_neg (by omega), if_neg (by omega), if_neg (by omega), if_neg (by omega)]
      refine ⟨JJ.chg hI.1 ne (Or.inr (ne 0 9 (by omega))) (Or.inl fun c i m => by unfold mL at m; omega) (Or.inl fun c i m => by unfold mH at m; omega) (Or.inl fun c i m => by omega) (Or.inl fun c i m => by unfold mP at m; omega) (Or.inr ?_) (Or.inl fun c i m => by unfold mT at m; omega) (Or.inl fun c i m => by unfold mK at m; omega) (Or.inl fun c i m => by unfold mS at m; omega) (Or.inl fun c i m => by unfold mX at m; omega) (Or.inl fun c i m => by omega) (Or.inl fun c i m => by omega), hI.2.keep (fun c hc => funext fun i => ne c i (by omega)) (ne 0 9 (by omega))⟩
      have e66 : S 68 4 = ((m + 1 : Nat) : Int) := by rw [at9, if_pos (Or.inl ⟨rfl, rfl⟩)]
      have e70 : S 72 29 = ((m + 1 : Nat) : Int) := by rw [at9, if_pos (Or.inr ⟨rfl, rfl⟩)]
      unfold vM
      rw [e66, e70]
      refine ⟨rfl, by omega, by omega, fun k q1 q2 => ?_⟩
      by_cases ek : k = (m : Nat)
      · subst ek
        have f1 : ∀ cc, cc = 69 ∨ cc = 89 → S cc (m : Nat) = a := fun cc hc => by rw [at9, if_neg (by omega), if_pos ⟨hc, rfl⟩]
        have f2 : ∀ cc, cc = 70 ∨ cc = 90 → S cc (m : Nat) = b := fun cc hc => by rw [at9, if_neg (by omega), if_neg (by omega), if_pos ⟨hc, rfl⟩]
        have f3 : ∀ cc, cc = 71 ∨ cc = 91 → S cc (m : Nat) = c := fun cc hc => by rw [at9, if_neg (by omega), if_neg (by omega), if_neg (by omega), if_pos ⟨hc, rfl⟩]
        rw [f1 69 (by omega), f1 89 (by omega), f2 70 (by omega), f2 90 (by omega), f3 71 (by omega), f3 91 (by omega)]
        refine ⟨⟨rfl, by omega⟩, ⟨rfl, by omega, ?_, by omega, by omega⟩, rfl, by omega, by omega⟩
        by_cases y0 : a = 0
        · have := l0 y0; omega
        · by_cases y1 : a = 1
          · have := l1 y1; omega
          · have := l2 y0 y1; omega
      · have f1 : ∀ cc, 69 ≤ cc ∧ cc ≤ 71 ∨ 89 ≤ cc ∧ cc ≤ 91 → S cc k = s cc k := fun cc hc => by rw [at9, if_neg (by omega), if_neg (by omega), if_neg (by omega), if_neg (by omega)]
        rw [f1 69 (by omega), f1 89 (by omega), f1 70 (by omega), f1 90 (by omega), f1 71 (by omega), f1 91 (by omega)]
        exact m4 k q1 (by omega)
  exact e96 (by omega) (f96_0 ⟨fun z0 => ⟨fun z1 => q 99 (fun y => absurd y z0) (fun y => absurd y z1) (fun _ _ => rfl), fun z1 => q 5 (fun y => absurd y z0) (fun _ => rfl) (fun _ y => absurd y z1)⟩, fun z0 => q 3 (fun _ => rfl) (fun y => absurd y (by omega)) (fun y => absurd y z0)⟩)
