/-! where those begin that cost so much; the way between two landings -/
variable {xs : Nat → Int} {L : Nat} {d : Nat} {s : Pl}
theorem i246 {c b : Nat} {P : Int → Pl → Prop} (hd : 2 ≤ d) (hc : c ≤ 401) (h0 : s 67 ((c : Nat) : Int) = (b : Nat)) (hb : b ≤ 1440) (h : P (b : Nat) s) : Ev xs L T0 106 d 246 [rf 65, it (c : Nat)] s (qi P) := by
  refine e246 (by omega) (f246_0 ⟨fun z => absurd z (by omega), fun _ => ⟨fun z => absurd z (by omega), fun _ => ⟨by omega, ?_⟩⟩⟩)
  rw [h0]
  refine i231 (by omega) (i230 (by omega) ?_)
  have e1 : (if ((b : Nat) : Int) < 1440 then ((b : Nat) : Int) else 1440) = (b : Nat) := by split <;> omega
  rw [e1]
  have e2 : (if (0 : Int) < ((b : Nat) : Int) then ((b : Nat) : Int) else 0) = (b : Nat) := by split <;> omega
  rw [e2]
  exact h
theorem i245 {u v : Nat} {P : Int → Pl → Prop} (hd : 2 ≤ d) (hu : u < 4) (hv : v < 4) (h : P (s 60 (4 * (u : Nat) + (v : Nat))) s) : Ev xs L T0 106 d 245 [rf 58, it (u : Nat), it (v : Nat)] s (qi P) := by
  refine e245 (by omega) (f245_0 (i126 (by omega) (fun _ => ⟨fun z => absurd z (by decide), fun _ => i126 (by omega) (fun _ => ⟨fun z => absurd z (by decide), fun _ => ?_⟩) (fun z => absurd (by omega) z)⟩) (fun z => absurd (by omega) z)))
  have z6 : zw (zw (4 * (u : Nat)) + (v : Nat)) = 4 * (u : Nat) + (v : Nat) := by rw [zw_id (x := 4 * ((u : Nat) : Int)) (by omega) (by omega), zw_id (by omega) (by omega)]
  rw [z6]
  exact ⟨by omega, h⟩
