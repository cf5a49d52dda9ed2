def SHw (D : Nat → Nat → Int) (u : Nat) (M : Int) (s : Pl) : Prop := ∀ b : Nat, b < 4 → s 98 (b : Nat) = -1 ∨ (D u b ≤ s 98 (b : Nat) ∧ s 98 (b : Nat) ≤ M)
def fWy (s s1 : Pl) : Prop := ∀ c i, c ≠ 85 → c ≠ 86 → c ≠ 98 → s1 c i = s c i
theorem fWy.mst {w s s1 : Pl} {t n : Nat} (h : fWy s s1) (v : Mst w t n s) : Mst w t n s1 := cMst (fun c i hm => by have := mMs_out hm; exact h c i (by omega) (by omega) (by omega)) v
theorem fWy.trans {s s1 s2 : Pl} (h : fWy s s1) (h2 : fWy s1 s2) : fWy s s2 := fun c i a b e => by rw [h2 c i a b e, h c i a b e]
theorem kG.fWy {s s1 : Pl} (h : kG s s1) : fWy s s1 := fun c i a b _ => h c i a b
/-- those that are right behind one more round -/
def nxX (w : Pl) (t : Nat) (D : Nat → Nat → Int) (u : Nat) (X : Nat → Bool) (b : Nat) : Prop := X b = true ∨ ∃ x, x < 4 ∧ x ≠ b ∧ X x = true ∧ D u b = D u x + RW w t x b
theorem nx_more {w : Pl} {t u : Nat} {D : Nat → Nat → Int} {X : Nat → Bool} (hD : DS w t D) (hu : u < 4) (hX : X u = true) : ∀ (m b : Nat), b < 4 → X b = false → D u b ≤ (m : Nat) → ∃ b2, b2 < 4 ∧ X b2 = false ∧ nxX w t D u X b2 := by
  intro m
  induction m with
  | zero =>
    intro b hb hXb hm
    have hne : u ≠ b := fun e => by rw [← e, hX] at hXb; cases hXb
    have := (hD u b hu hb).2.2.1 hne
    omega
  | succ m ih =>
    intro b hb hXb hm
    have hne : u ≠ b := fun e => by rw [← e, hX] at hXb; cases hXb
    obtain ⟨x, h1, h2, h3⟩ := (hD u b hu hb).2.2.2.2 hne
    have hr := (RW_rng w t x b).2.2 h2
    cases hx : X x with
    | true => exact ⟨b, hb, hXb, Or.inr ⟨x, h1, h2, hx, h3⟩⟩
    | false => exact ih x h1 hx (by omega)
variable {xs : Nat → Int} {L : Nat} {d : Nat} {s : Pl}
theorem i203 {w : Pl} {t n u v : Nat} {D : Nat → Nat → Int} {P : Int → Pl → Prop} (hd : 4 ≤ d) (hk : wOk w t n) (hm : Mst w t n s) (hD : DS w t D) (hu : u < 4) (hv : v < 4) (h : ∀ s1 : Pl, fWy s s1 → P (D u v) s1) : Ev xs L T0 106 d 203 [rf 73, it (u : Nat), it (v : Nat)] s (qi P) := by
  -- one landing's edges
  have lb : ∀ (X : Nat → Bool) (k : Nat), k < 4 → ∀ (M0 : Int), 0 ≤ M0 → M0 ≤ 8000 → ∀ (v3 : Int) (out : ∀ (s1 : Pl) (v5 : Int), fWy s s1 → SHw D u (M0 + 400) s1 → (∀ x, x < 4 → X x = true → s1 98 (x : Nat) = D u x) → (∀ x, x < k + 1 → X x = true → ∀ b : Nat, b < 4 → b ≠ x → s1 98 (b : Nat) ≠ -1 ∧ s1 98 (b : Nat) ≤ D u x + RW w t x b) → Fr xs L T0 106 (d - 1) 203 139 [some (rf 73), some (it (u : Nat)), some (it (v : Nat)), some (it v3), some (it (k : Nat)), some (it v5)] [] s1 (qi P)), ∀ (j b0 : Nat) (s1 : Pl) (v5 : Int), b0 + j = 4 → v5 = (b0 : Nat) → fWy s s1 → SHw D u (M0 + 100 * (b0 : Nat)) s1 → 0 ≤ s1 98 (k : Nat) → s1 98 (k : Nat) ≤ M0 → (∀ x, x < 4 → X x = true → s1 98 (x : Nat) = D u x) → (∀ x, x < k → X x = true → ∀ b : Nat, b < 4 → b ≠ x → s1 98 (b : Nat) ≠ -1 ∧ s1 98 (b : Nat) ≤ D u x + RW w t x b) → (X k = true → ∀ b : Nat, b < b0 → b ≠ k → s1 98 (b : Nat) ≠ -1 ∧ s1 98 (b : Nat) ≤ D u k + RW w t k b) → Fr xs L T0 106 (d - 1) 203 61 [some (rf 73), some (it (u : Nat)), some (it (v : Nat)), some (it v3), some (it (k : Nat)), some (it v5)] [] s1 (qi P) := by
    intro X k hk4 M0 hM0 hM1 v3 out j
    induction j with
    | zero =>
      intro b0 s1 v5 hb h5 hf hS hk0 hkM hX hR hK
      have e : b0 = 4 := by omega
      subst e
      refine f203_61 ⟨fun _ => out s1 _ hf (fun b hb => by have := hS b hb; omega) hX (fun x hx hXx => ?_), fun z => absurd (by omega) z⟩
      by_cases e : x = k
      · subst e; exact hK hXx
      · exact hR x (by omega) hXx
    | succ j ih =>
      intro b0 s1 v5 hb h5 hf hS hk0 hkM hX hR hK
      subst h5
      have zb : ∀ _ : Unit, zw ((b0 : Nat) + 1) = ((b0 + 1 : Nat) : Int) := fun _ => by rw [zw_id (by omega) (by omega)]; omega
      have hb4 : b0 < 4 := by omega
      have hm1 := hf.mst hm
      have keep : ∀ s2 : Pl, fWy s s2 → s2 98 = s1 98 → (X k = true → b0 ≠ k → s1 98 (b0 : Nat) ≠ -1 ∧ s1 98 (b0 : Nat) ≤ D u k + RW w t k b0) → Fr xs L T0 106 (d - 1) 203 133 [some (rf 73), some (it (u : Nat)), some (it (v : Nat)), some (it v3), some (it (k : Nat)), some (it (b0 : Nat))] [] s2 (qi P) := fun s2 hf2 e96 hg => f203_133 (by
        rw [zb ()]
        refine ih (b0 + 1) s2 _ (by omega) rfl hf2 (fun b hb => by rw [e96]; have := hS b hb; omega) (by rw [e96]; exact hk0) (by rw [e96]; exact hkM) (by rw [e96]; exact hX) (by rw [e96]; exact hR) (fun hXk b hb hne => ?_)
        rw [e96]
        by_cases e : b = b0
        · subst e; exact hg hXk hne
        · exact hK hXk b (by omega) hne)
      have hsk : D u k ≤ s1 98 (k : Nat) := by
        have := hS k hk4
        omega
      have upd : b0 ≠ k → (s1 98 (b0 : Nat) = -1 ∨ s1 98 (k : Nat) + RW w t k b0 < s1 98 (b0 : Nat)) → ∀ s2 : Pl, kG s1 s2 → Fr xs L T0 106 (d - 1) 203 110 [some (rf 73), some (it (u : Nat)), some (it (v : Nat)), some (it v3), some (it (k : Nat)), some (it (b0 : Nat))] [] s2 (qi P) := by
        intro hne hlow s2 hs2
        have hf2 := hf.trans hs2.fWy
        have e96 : s2 98 = s1 98 := funext fun i => hs2 98 i (by decide) (by decide)
        refine f203_110 ⟨by omega, i165w (by omega) hk (hf2.mst hm) hk4 hb4 fun s3 hs3 => ⟨by omega, f203_133 ?_⟩⟩
        have eR : rowV w t k b0 = RW w t k b0 := by unfold RW; rw [if_neg (fun e => hne e.symm)]
        have hr := RW_rng w t k b0
        have e963 : s3 98 = s1 98 := by rw [← e96]; exact funext fun i => hs3 98 i (by decide) (by decide)
        have hf3 := hf2.trans hs3.fWy
        have eold : s2 98 (k : Nat) = s1 98 (k : Nat) := by rw [e96]
        rw [zb (), eold, eR, zw_id (x := s1 98 (k : Nat) + RW w t k b0) (by omega) (by omega)]
        have hrel := (hD u b0 hu hb4).2.2.2.1 k hk4 (fun e => hne e.symm)
        refine ih (b0 + 1) _ _ (by omega) rfl (fun c i a1 a2 a3 => by rw [zune _ _ _ a3]; exact hf3 c i a1 a2 a3) (fun b hb => ?_) ?_ ?_ (fun x hx hXx => ?_) (fun x hx hXx b hb hbx => ?_) (fun hXk b hb hbk => ?_)
        · rw [zg, e963]
          by_cases e : b = b0
          · subst e; rw [if_pos ⟨rfl, rfl⟩]; right; omega
          · rw [if_neg (fun q => e (by omega))]; have := hS b hb; omega
        · rw [zg, if_neg (fun q => hne (by omega)), e963]; exact hk0
        · rw [zg, if_neg (fun q => hne (by omega)), e963]; exact hkM
        · rw [zg, e963]
          by_cases e : x = b0
          · subst e
            have := hX x hx hXx
            have := (hD u x hu hx).1
            omega
          · rw [if_neg (fun q => e (by omega))]; exact hX x hx hXx
        · rw [zg, e963]
          have hx4 : x < 4 := by omega
          have hq := hR x hx hXx b hb hbx
          by_cases e : b = b0
          · subst e
            rw [if_pos ⟨rfl, rfl⟩]
            have := (hD u b hu hb4).1
            omega
          · rw [if_neg (fun q => e (by omega))]; exact hq
        · rw [zg, e963]
          by_cases e : b = b0
          · subst e
            rw [if_pos ⟨rfl, rfl⟩, hX k hk4 hXk]
            have := (hD u k hu hk4).1
            omega
          · rw [if_neg (fun q => e (by omega))]; exact hK hXk b (by omega) hbk
      refine f203_61 ⟨fun z => absurd z (by omega), fun _ => ⟨fun z => keep s1 hf rfl fun _ q => absurd (by omega) q, fun hne => ⟨by omega, fun z => upd (by omega) (Or.inl (by have := hS b0 hb4; have := (hD u b0 hu hb4).1; omega)) s1 (kG.refl s1), fun z => ⟨by omega, i165w (by omega) hk hm1 hk4 hb4 fun s2 hs2 => ?_⟩⟩⟩⟩
      have eR : rowV w t k b0 = RW w t k b0 := by unfold RW; rw [if_neg (by omega)]
      have hr := RW_rng w t k b0
      have e96 : s2 98 = s1 98 := funext fun i => hs2 98 i (by decide) (by decide)
      rw [eR, e96, zw_id (x := s1 98 (k : Nat) + RW w t k b0) (by omega) (by omega)]
      refine ⟨by omega, fun q => keep s2 (hf.trans hs2.fWy) e96 fun hXk _ => ?_, fun q => upd (by omega) (Or.inr (by omega)) s2 hs2⟩
      rw [hX k hk4 hXk] at q
      omega
  -- one round
  have la : ∀ (X : Nat → Bool) (r : Nat), r < 4 → X u = true → (∀ (s1 : Pl) (v3 : Int) (w4 w5 : Option AV), fWy s s1 → SHw D u (1600 * ((r : Nat) + 1)) s1 → s1 98 (u : Nat) = 0 → (∀ x, x < 4 → nxX w t D u X x → s1 98 (x : Nat) = D u x) → Fr xs L T0 106 (d - 1) 203 31 [some (rf 73), some (it (u : Nat)), some (it (v : Nat)), some (it ((r + 1 : Nat) : Int)), w4, w5] [] s1 (qi P)) → ∀ (j k : Nat) (s1 : Pl) (v4 : Int) (w5 : Option AV), k + j = 4 → v4 = (k : Nat) → fWy s s1 → SHw D u (1600 * (r : Nat) + 400 * (k : Nat)) s1 → (∀ x, x < 4 → X x = true → s1 98 (x : Nat) = D u x) → (∀ x, x < k → X x = true → ∀ b : Nat, b < 4 → b ≠ x → s1 98 (b : Nat) ≠ -1 ∧ s1 98 (b : Nat) ≤ D u x + RW w t x b) → Fr xs L T0 106 (d - 1) 203 39 [some (rf 73), some (it (u : Nat)), some (it (v : Nat)), some (it (r : Nat)), some (it v4), w5] [] s1 (qi P) := by
    intro X r hr4 hXu out j
    have zr : ∀ _ : Unit, zw ((r : Nat) + 1) = ((r + 1 : Nat) : Int) := fun _ => by rw [zw_id (by omega) (by omega)]; omega
    induction j with
    | zero =>
      intro k s1 v4 w5 hk9 h4 hf hS hX hR
      have e : k = 4 := by omega
      subst e
      refine f203_39 ⟨fun _ => ?_, fun z => absurd (by omega) z⟩
      rw [zr ()]
      refine out s1 (r : Nat) _ _ hf (fun b hb => by have := hS b hb; omega) (by rw [hX u hu hXu]; exact (hD u u hu hu).2.1 rfl) (fun x hx hn => ?_)
      rcases hn with q | ⟨y, q1, q2, q3, q4⟩
      · exact hX x hx q
      · have := hR y q1 q3 x hx (fun e => q2 e.symm)
        have := hS x hx
        omega
    | succ j ih =>
      intro k s1 v4 w5 hk9 h4 hf hS hX hR
      subst h4
      have zk : ∀ _ : Unit, zw ((k : Nat) + 1) = ((k + 1 : Nat) : Int) := fun _ => by rw [zw_id (by omega) (by omega)]; omega
      have hk4 : k < 4 := by omega
      refine f203_39 ⟨fun z => absurd z (by omega), fun _ => ⟨by omega, fun z => ?_, fun z => f203_139 ?_⟩⟩
      · have hSk := hS k hk4
        refine lb X k hk4 (1600 * (r : Nat) + 400 * (k : Nat)) (by omega) (by omega) (r : Nat) (fun s2 v5 h1 h2 h3 h4 => f203_139 ?_) 4 0 s1 _ (by omega) rfl hf (fun b hb => by have := hS b hb; omega) z (by omega) hX hR (fun _ b hb => absurd hb (by omega))
        rw [zk ()]
        exact ih (k + 1) s2 _ _ (by omega) rfl h1 (fun b hb => by have := h2 b hb; omega) h3 h4
      · rw [zk ()]
        have hnX : X k = false := by
          cases hx : X k with
          | false => rfl
          | true =>
            have := hX k hk4 hx
            have := (hD u k hu hk4).1
            omega
        refine ih (k + 1) s1 _ _ (by omega) rfl hf (fun b hb => by have := hS b hb; omega) hX (fun x hx hXx => ?_)
        by_cases e : x = k
        · subst e; rw [hnX] at hXx; cases hXx
        · exact hR x (by omega) hXx
  -- all rounds
  have lr : ∀ (j r : Nat) (X : Nat → Bool) (s1 : Pl) (v3 : Int) (w4 w5 : Option AV), r + j = 4 → v3 = (r : Nat) → fWy s s1 → SHw D u (1600 * (r : Nat)) s1 → X u = true → (∀ x, x < 4 → X x = true → s1 98 (x : Nat) = D u x) → ((∀ b, b < 4 → X b = true) ∨ r + 1 ≤ cnt X 4) → Fr xs L T0 106 (d - 1) 203 31 [some (rf 73), some (it (u : Nat)), some (it (v : Nat)), some (it v3), w4, w5] [] s1 (qi P) := by
    intro j
    induction j with
    | zero =>
      intro r X s1 v3 w4 w5 hr h3 hf hS hXu hX hc
      have hall : ∀ b, b < 4 → X b = true := by
        rcases hc with q | q
        · exact q
        · have := cnt_le X 4
          omega
      refine f203_31 ⟨fun _ => ⟨by omega, ?_⟩, fun z => absurd (by omega) z⟩
      rw [hX v hv (hall v hv)]
      exact h s1 hf
    | succ j ih =>
      intro r X s1 v3 w4 w5 hr h3 hf hS hXu hX hc
      subst h3
      refine f203_31 ⟨fun z => absurd z (by omega), fun _ => ?_⟩
      obtain ⟨Y, hY⟩ : ∃ Y : Nat → Bool, ∀ b, Y b = true ↔ nxX w t D u X b := ⟨fun b => @decide _ (Classical.propDecidable (nxX w t D u X b)), fun b => @decide_eq_true_iff _ (Classical.propDecidable _)⟩
      refine la X r (by omega) hXu (fun s2 v3 w4 w5 h1 h2 h3 h4 => ?_) 4 0 s1 _ _ (by omega) rfl hf (fun b hb => by have := hS b hb; omega) hX (fun x hx => absurd hx (by omega))
      refine ih (r + 1) Y s2 _ _ _ (by omega) rfl h1 (fun b hb => by have := h2 b hb; omega) ((hY u).mpr (Or.inl hXu)) (fun x hx hYx => h4 x hx ((hY x).mp hYx)) ?_
      have hsub : ∀ b, X b = true → Y b = true := fun b hb => (hY b).mpr (Or.inl hb)
      rcases hc with q | q
      · exact Or.inl fun b hb => hsub b (q b hb)
      · by_cases hall : ∀ b, b < 4 → X b = true
        · exact Or.inl fun b hb => hsub b (hall b hb)
        · right
          have hex : ∃ b, b < 4 ∧ X b = false := by
            refine Classical.byContradiction fun z => hall fun b hb => ?_
            cases hx : X b with
            | true => rfl
            | false => exact absurd ⟨b, hb, hx⟩ z
          obtain ⟨b, hb, hXb⟩ := hex
          obtain ⟨b2, g1, g2, g3⟩ := nx_more hD hu hXu 99 b hb hXb (by have := (hD u b hu hb).1.2; omega)
          have hlt : ∀ k, b2 < k → cnt X k + 1 ≤ cnt Y k := by
            have hle : ∀ k, cnt X k ≤ cnt Y k := by
              intro k
              induction k with
              | zero => exact Nat.le_refl _
              | succ k ihk =>
                simp only [cnt]
                by_cases hx : X k = true
                · rw [if_pos hx, if_pos (hsub k hx)]; omega
                · rw [if_neg hx]; split <;> omega
            intro k
            induction k with
            | zero => intro hk; omega
            | succ k ihk =>
              intro hk
              simp only [cnt]
              by_cases e : b2 = k
              · subst e
                rw [g2, (hY b2).mpr g3, if_neg (by decide), if_pos rfl]
                have := hle b2
                omega
              · have := ihk (by omega)
                by_cases hx : X k = true
                · rw [if_pos hx, if_pos (hsub k hx)]; omega
                · rw [if_neg hx]; split <;> omega
          have := hlt 4 (by omega)
          omega
  -- the beginning
  have l0 : ∀ (j k : Nat) (s1 : Pl) (v3 : Int), k + j = 4 → v3 = (k : Nat) → fWy s s1 → (∀ b : Nat, b < k → s1 98 (b : Nat) = if b = u then 0 else -1) → Fr xs L T0 106 (d - 1) 203 2 [some (rf 73), some (it (u : Nat)), some (it (v : Nat)), some (it v3), none, none] [] s1 (qi P) := by
    intro j
    induction j with
    | zero =>
      intro k s1 v3 hk9 h3 hf h4
      refine f203_2 ⟨fun _ => ?_, fun z => absurd (by omega) z⟩
      have hDu := (hD u u hu hu).2.1 rfl
      refine lr 4 0 (fun b => decide (b = u)) s1 _ _ _ (by omega) rfl hf (fun b hb => ?_) (by simp) (fun x hx hXx => ?_) (Or.inr ?_)
      · rw [h4 b (by omega)]
        by_cases e : b = u
        · subst e; rw [if_pos rfl, hDu]; omega
        · rw [if_neg e]; exact Or.inl rfl
      · have e : x = u := by simpa using hXx
        rw [e, h4 u (by omega), if_pos rfl, hDu]
      · have : u = 0 ∨ u = 1 ∨ u = 2 ∨ u = 3 := by omega
        rcases this with rfl | rfl | rfl | rfl <;> decide
    | succ j ih =>
      intro k s1 v3 hk9 h3 hf h4
      subst h3
      have zk : ∀ _ : Unit, zw ((k : Nat) + 1) = ((k + 1 : Nat) : Int) := fun _ => by rw [zw_id (by omega) (by omega)]; omega
      have nx : ∀ vs : Int, vs = (if k = u then 0 else -1) → Fr xs L T0 106 (d - 1) 203 22 [some (rf 73), some (it (u : Nat)), some (it (v : Nat)), some (it (k : Nat)), none, none] [it vs, it (k : Nat), rf 99] s1 (qi P) := fun vs hvs => f203_22 ⟨by omega, by
        rw [zk ()]
        refine ih (k + 1) _ _ (by omega) rfl (fun c i a b e => by rw [zune _ _ _ e]; exact hf c i a b e) (fun b hb => ?_)
        rw [zg]
        by_cases e : b = k
        · subst e; rw [if_pos ⟨rfl, rfl⟩]; exact hvs
        · rw [if_neg (fun q => e (by omega))]; exact h4 b (by omega)⟩
      exact f203_2 ⟨fun z => absurd z (by omega), fun _ => ⟨fun z => nx _ (by rw [if_neg (by omega)]), fun z => nx _ (by rw [if_pos (by omega)])⟩⟩
  exact e203 (by omega) (f203_0 (l0 4 0 s _ (by omega) rfl (fun _ _ _ _ _ => rfl) (fun b hb => absurd hb (by omega))))
