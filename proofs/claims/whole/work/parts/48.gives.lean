variable {xs : Nat → Int} {L : Nat} {d : Nat} {s : Pl}
theorem m13 {t0 : Nat} (ht0 : t0 < 6) (hd : 3 ≤ d) {v1 : Int} (hv : 0 ≤ v1 ∧ v1 < 3) {b e : Nat} (hb : (if v1 = 0 then 0 else s (23 + 4 * t0) (v1 - 1)) = (b : Nat)) (he : s (23 + 4 * t0) v1 = (e : Nat)) (hbe : b ≤ e ∧ e ≤ 160) (hok : ∀ k : Nat, k < e → okc (s (22 + 4 * t0) (k : Nat))) (hdp : dp (s (22 + 4 * t0)) b (e - b) 0 = some 1) :
    Ev xs L T0 106 d 13 [rf (21 + 4 * t0 + 1), it v1, rf 59] s (qi fun r s1 => r = (exs (s 58) (s (22 + 4 * t0)) b (e - b) []).headD 0 ∧ ∀ c k, c ≠ 24 + 4 * t0 → s1 c k = s c k) := by
  refine e13 (by omega) (f13_0 ht0 ⟨fun h => absurd h (by omega), fun _ => ⟨fun _ => ⟨fun h1 => ?_, fun h1 => f13_37 ht0 ?_⟩, fun h => absurd (by omega : v1 < 3) h⟩⟩)
  · rw [if_neg h1] at hb
    rw [zw_id (x := v1 - 1) (by omega) (by omega), hb]
    refine ⟨by omega, i230 (by omega) (f13_37 ht0 ?_)⟩
    have e0 : (if (0 : Int) < ((b : Nat) : Int) then ((b : Nat) : Int) else 0) = (b : Nat) := by split <;> omega
    rw [e0]
    exact l13 ht0 (by omega) hv hbe.2 hok s (e - b) b [] s _ _ _ (by omega) hdp (by simp) trivial rfl rfl he (fun _ _ _ => rfl) (by simp) rfl
  · rw [if_pos (Classical.not_not.mp h1)] at hb
    exact l13 ht0 (by omega) hv hbe.2 hok s (e - b) b [] s _ _ _ (by omega) hdp (by simp) trivial rfl rfl he (fun _ _ _ => rfl) (by simp) hb
/-- the reference's step and the class's code say the same -/
def stp (a w c : Int) : Prop := (a = 1 ∧ 0 ≤ w ∧ w = c) ∨ (a = 2 ∧ 0 ≤ w ∧ w < 6 ∧ c = -1 - w) ∨ (a = 3 ∧ c = -12) ∨ (a = 4 ∧ c = -13) ∨ (a = 5 ∧ c = -10) ∨ (a = 6 ∧ c = -11) ∨ (a = 42 ∨ a = 43 ∨ a = 45 ∨ a = 60 ∨ a = 61) ∧ c = -a
theorem stp_ok {a w c : Int} (h : stp a w c) : okc c := by
  unfold stp at h
  unfold okc isB
  omega
theorem i161 {a w c x y : Int} {P : Int → Pl → Prop} (hd : 1 ≤ d) (hs : stp a w c) (hb : a < 1 ∨ 4 < a) (h : P (op2 c x y) s) : Ev xs L T0 106 d 161 [it a, it x, it y] s (qi P) := by
  refine e161 hd (f161_0 ?_)
  have hc : (a = 5 ∧ c = -10) ∨ (a = 6 ∧ c = -11) ∨ (a = 42 ∧ c = -42) ∨ (a = 43 ∧ c = -43) ∨ (a = 45 ∧ c = -45) ∨ (a = 60 ∧ c = -60) ∨ (a = 61 ∧ c = -61) := by
    unfold stp at hs
    omega
  rcases hc with ⟨rfl, rfl⟩ | ⟨rfl, rfl⟩ | ⟨rfl, rfl⟩ | ⟨rfl, rfl⟩ | ⟨rfl, rfl⟩ | ⟨rfl, rfl⟩ | ⟨rfl, rfl⟩ <;> simp [op2] at * <;> grind [f161_68]
