/-! draws, in the class -/
theorem slr_mem {w : Pl} {t n x p : Nat} : ∀ {q : Nat} {e : Nat × Nat}, e ∈ slr w t n x p q → swB w t n x e.1 e.2 = true := by
  intro q
  induction q with
  | zero => intro e h; simp [slr] at h
  | succ q ih =>
    intro e h
    simp only [slr, List.mem_append] at h
    rcases h with h | h
    · exact ih h
    · by_cases hs : swB w t n x p q = true
      · rw [if_pos hs] at h
        simp at h
        subst h
        exact hs
      · rw [if_neg hs] at h
        simp at h
theorem sla_mem {w : Pl} {t n x : Nat} : ∀ {p : Nat} {e : Nat × Nat}, e ∈ sla w t n x p → swB w t n x e.1 e.2 = true := by
  intro p
  induction p with
  | zero => intro e h; simp [sla] at h
  | succ p ih =>
    intro e h
    simp only [sla, List.mem_append] at h
    rcases h with h | h
    · exact ih h
    · exact slr_mem h
def lrow (b i : Nat) : Nat := if b ≤ i then i + 1 else i
noncomputable def ltx (w : Pl) (t n x lot : Nat) : Nat := if lot < (sla w t n x n).length then swd x ((sla w t n x n).getD lot (0, 0)).1 ((sla w t n x n).getD lot (0, 0)).2 else rwd x (lrow (bt x) (lot - (sla w t n x n).length))
noncomputable def lth (w : Pl) (t n x lot : Nat) : Int := if lot < (sla w t n x n).length then 0 else RW w t (bt x) (lrow (bt x) (lot - (sla w t n x n).length))
def dz (seed : Nat) : Nat → Nat
  | 0 => seed + 1
  | i + 1 => dz seed i * 48271 % 2147483647
noncomputable def dx (w : Pl) (t n x0 seed : Nat) : Nat → Nat
  | 0 => x0
  | i + 1 => ltx w t n (dx w t n x0 seed i) (dz seed (i + 1) % ((sla w t n (dx w t n x0 seed i) n).length + 3))
noncomputable def dh (w : Pl) (t n x0 seed : Nat) : Nat → Int
  | 0 => 0
  | i + 1 => dh w t n x0 seed i + lth w t n (dx w t n x0 seed i) (dz seed (i + 1) % ((sla w t n (dx w t n x0 seed i) n).length + 3))
theorem lrow_lt {b i : Nat} (h : i < 3) (hb : b < 4) : lrow b i < 4 ∧ lrow b i ≠ b := by
  unfold lrow
  split <;> omega
theorem ltx_ok {w : Pl} {t n x lot : Nat} (hx : okx n x) (hl : lot < (sla w t n x n).length + 3) : okx n (ltx w t n x lot) := by
  unfold ltx
  by_cases h : lot < (sla w t n x n).length
  · rw [if_pos h]
    have hm : (sla w t n x n).getD lot (0, 0) ∈ sla w t n x n := by
      rw [List.getD_eq_getElem?_getD, List.getElem?_eq_getElem h]
      exact List.getElem_mem h
    have := (swB_iff _ _ _ _ _ _).mp (sla_mem hm)
    exact swd_ok hx this.1.1 this.1.2
  · rw [if_neg h]
    exact rwd_ok hx (lrow_lt (by omega) (bt_lt x)).1
theorem lth_rng (w : Pl) (t n x lot : Nat) : 0 ≤ lth w t n x lot ∧ lth w t n x lot ≤ 99 := by
  unfold lth
  have := RW_rng w t (bt x) (lrow (bt x) (lot - (sla w t n x n).length))
  split <;> omega
theorem dx_ok {w : Pl} {t n x0 seed : Nat} (hx : okx n x0) : ∀ i, okx n (dx w t n x0 seed i) := by
  intro i
  induction i with
  | zero => exact hx
  | succ i ih => exact ltx_ok ih (Nat.mod_lt _ (by omega))
theorem dh_rng (w : Pl) (t n x0 seed : Nat) : ∀ i : Nat, 0 ≤ dh w t n x0 seed i ∧ dh w t n x0 seed i ≤ 99 * (i : Nat) := by
  intro i
  induction i with
  | zero => simp [dh]
  | succ i ih =>
    have := lth_rng w t n (dx w t n x0 seed i) (dz seed (i + 1) % ((sla w t n (dx w t n x0 seed i) n).length + 3))
    simp only [dh]
    omega
variable {xs : Nat → Int} {L : Nat} {d : Nat} {s : Pl}
theorem fSw.fT {t : Nat} {s s1 : Pl} (h : fSw s s1) : fT t s s1 := fun c i _ _ a b e _ => h c i a b (fun q z => by have := e q; omega)
/-- choose -/
theorem i81 {w : Pl} {t n x0 x lot : Nat} {s0 : Pl} {P : Pl → Prop} (hd : 4 ≤ d) (hw : Wk w t n x0 s0) (hq : LQ w t n x0 s0 s) (hx : okx n x) (hlk : lkk w n x s) (hl : SLs s (sla w t n x n)) (hlot : lot < (sla w t n x n).length + 3) (h5 : s 68 5 = (x : Nat)) (h6 : 0 ≤ s 68 6 ∧ s 68 6 ≤ 100000) (h : ∀ s1 : Pl, LQ w t n x0 s0 s1 → fT t s s1 → lkk w n (ltx w t n x lot) s1 → s1 68 5 = (ltx w t n x lot : Nat) → s1 68 6 = s 68 6 + lth w t n x lot → P s1) : Ev xs L T0 106 d 81 [rf 69, it (lot : Nat)] s (qv P) := by
  have hn := hw.1.1.2
  have hlen : (sla w t n x n).length ≤ 36 := Nat.le_trans (sla_len w t n x n) (Nat.mul_le_mul hn hn)
  have hb := bt_lt x
  unfold ltx lth at h
  refine e81 (by omega) (f81_0 ⟨fun z => absurd z (by omega), fun _ => ⟨fun z => ?_, fun z => ⟨fun z => absurd z (by rw [hl.1] at *; omega), fun _ => ⟨by rw [hl.1] at z; omega, by rw [hl.1] at z; omega, ?_⟩⟩⟩⟩)
  · rw [hl.1] at z
    have hg : ¬ lot < (sla w t n x n).length := by omega
    rw [if_neg hg, if_neg hg] at h
    refine f81_50 ?_
    have zz : ∀ _ : Unit, zw ((lot : Nat) - s 57 15) = ((lot - (sla w t n x n).length : Nat) : Int) := fun _ => by rw [hl.1, zw_id (by omega) (by omega)]; omega
    have zz1 : ∀ _ : Unit, zw (((lot - (sla w t n x n).length : Nat) : Int) + 1) = ((lot - (sla w t n x n).length + 1 : Nat) : Int) := fun _ => by rw [zw_id (by omega) (by omega)]; omega
    rw [zz (), zz1 (), hlk.1]
    have hr := lrow_lt (b := bt x) (i := lot - (sla w t n x n).length) (by omega) hb
    have go : ∀ r : Nat, r = lrow (bt x) (lot - (sla w t n x n).length) → Fr xs L T0 106 (d - 1) 81 79 [some (rf 69), some (it (lot : Nat)), some (it ((lot - (sla w t n x n).length : Nat) : Int))] [it (r : Nat), rf 69] s (qv P) := fun r e => by
      subst e
      exact f81_79 (i77 (by omega) hw hq hx hr.1 hlk h5 h6 fun s1 g1 g2 g3 g4 g5 _ => h s1 g1 g2 g3 g4 g5)
    refine ⟨fun q => go _ ?_, fun q => go _ ?_⟩
    · unfold lrow; rw [if_pos (by omega)]
    · unfold lrow; rw [if_neg (by omega)]
  · rw [hl.1] at z
    have hg : lot < (sla w t n x n).length := by omega
    rw [if_pos hg, if_pos hg] at h
    have hge : (sla w t n x n)[lot]? = some ((sla w t n x n).getD lot (0, 0)) := by
      rw [List.getD_eq_getElem?_getD, List.getElem?_eq_getElem hg]; rfl
    have hm : (sla w t n x n).getD lot (0, 0) ∈ sla w t n x n := by
      rw [List.getD_eq_getElem?_getD, List.getElem?_eq_getElem hg]
      exact List.getElem_mem hg
    have hs := (swB_iff _ _ _ _ _ _).mp (sla_mem hm)
    generalize (sla w t n x n).getD lot (0, 0) = pq at *
    obtain ⟨p, q⟩ := pq
    obtain ⟨c1, c2⟩ := hl.2 lot p q hge
    rw [c1, c2]
    exact i78 (by omega) hw hq hx hs hlk h5 fun s1 g1 g2 g3 g4 g5 => h s1 g1 g2 g3 g4 (by rw [g5 6 (by decide)]; omega)
