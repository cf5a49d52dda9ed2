/-! where all are, as one number: the boat's landing, and each one's place -/
def bt (x : Nat) : Nat := x % 4
def pl (x p : Nat) : Nat := x / (4 * 5 ^ p) % 5
def enc (b : Nat) (f : Nat → Nat) : Nat := b + 4 * (f 0 + 5 * (f 1 + 5 * (f 2 + 5 * (f 3 + 5 * (f 4 + 5 * f 5)))))
theorem lt6 {p : Nat} (h : p < 6) : p = 0 ∨ p = 1 ∨ p = 2 ∨ p = 3 ∨ p = 4 ∨ p = 5 := by omega
theorem bt_lt (x : Nat) : bt x < 4 := Nat.mod_lt _ (by decide)
theorem pl_lt (x p : Nat) : pl x p < 5 := Nat.mod_lt _ (by decide)
theorem bt_enc {b : Nat} {f : Nat → Nat} (hb : b < 4) : bt (enc b f) = b := by
  unfold bt enc
  omega
theorem pl_enc {b p : Nat} {f : Nat → Nat} (hb : b < 4) (hf : ∀ r, r < 6 → f r < 5) (hp : p < 6) : pl (enc b f) p = f p := by
  have h0 := hf 0 (by decide)
  have h1 := hf 1 (by decide)
  have h2 := hf 2 (by decide)
  have h3 := hf 3 (by decide)
  have h4 := hf 4 (by decide)
  have h5 := hf 5 (by decide)
  unfold pl enc
  rcases lt6 hp with rfl | rfl | rfl | rfl | rfl | rfl <;> simp only [Nat.reducePow, Nat.reduceMul, Nat.mul_one] <;> omega
theorem enc_lt {b : Nat} {f : Nat → Nat} (hb : b < 4) (hf : ∀ r, r < 6 → f r < 5) : enc b f < 62500 := by
  have h0 := hf 0 (by decide)
  have h1 := hf 1 (by decide)
  have h2 := hf 2 (by decide)
  have h3 := hf 3 (by decide)
  have h4 := hf 4 (by decide)
  have h5 := hf 5 (by decide)
  unfold enc
  omega
theorem enc_pl {x : Nat} (h : x < 62500) : enc (bt x) (pl x) = x := by
  unfold enc bt pl
  simp only [Nat.reducePow, Nat.reduceMul, Nat.mul_one]
  omega
theorem enc_cong {b b2 : Nat} {f g : Nat → Nat} (hb : b = b2) (h : ∀ r, r < 6 → f r = g r) : enc b f = enc b2 g := by
  unfold enc
  rw [hb, h 0 (by decide), h 1 (by decide), h 2 (by decide), h 3 (by decide), h 4 (by decide), h 5 (by decide)]
theorem conf_ext {x y : Nat} (hx : x < 62500) (hy : y < 62500) (hb : bt x = bt y) (h : ∀ r, r < 6 → pl x r = pl y r) : x = y := by
  rw [← enc_pl hx, ← enc_pl hy]
  exact enc_cong hb h
/-- nobody behind the n-th -/
def okx (n x : Nat) : Prop := x < 62500 ∧ ∀ r, n ≤ r → r < 6 → pl x r = 0
theorem okx_ext {n x y : Nat} (hx : okx n x) (hy : okx n y) (hb : bt x = bt y) (h : ∀ r, r < n → r < 6 → pl x r = pl y r) : x = y := by
  refine conf_ext hx.1 hy.1 hb fun r hr => ?_
  by_cases h9 : r < n
  · exact h r h9 hr
  · rw [hx.2 r (by omega) hr, hy.2 r (by omega) hr]
def swf (x p q r : Nat) : Nat := if r = q then 4 else if r = p then bt x else pl x r
def swd (x p q : Nat) : Nat := enc (bt x) (swf x p q)
def rwd (x l : Nat) : Nat := enc l (pl x)
theorem swf_lt (x p q r : Nat) : swf x p q r < 5 := by
  unfold swf
  have := bt_lt x
  have := pl_lt x r
  split <;> (try split) <;> omega
theorem swd_bt (x p q : Nat) : bt (swd x p q) = bt x := bt_enc (bt_lt x)
theorem swd_pl {x p q r : Nat} (hr : r < 6) : pl (swd x p q) r = swf x p q r := pl_enc (bt_lt x) (fun r _ => swf_lt x p q r) hr
theorem rwd_bt {x l : Nat} (hl : l < 4) : bt (rwd x l) = l := bt_enc hl
theorem rwd_pl {x l r : Nat} (hl : l < 4) (hr : r < 6) : pl (rwd x l) r = pl x r := pl_enc hl (fun r _ => pl_lt x r) hr
theorem swd_ok {n x p q : Nat} (hx : okx n x) (hp : p < n) (hq : q < n) : okx n (swd x p q) := by
  refine ⟨enc_lt (bt_lt x) (fun r _ => swf_lt x p q r), fun r h1 h2 => ?_⟩
  rw [swd_pl h2]
  unfold swf
  rw [if_neg (by omega), if_neg (by omega)]
  exact hx.2 r h1 h2
theorem rwd_ok {n x l : Nat} (hx : okx n x) (hl : l < 4) : okx n (rwd x l) := by
  refine ⟨enc_lt hl (fun r _ => pl_lt x r), fun r h1 h2 => ?_⟩
  rw [rwd_pl hl h2]
  exact hx.2 r h1 h2
theorem rwd_self {x : Nat} (hx : x < 62500) : rwd x (bt x) = x := enc_pl hx
/-- the class's ways to them -/
theorem rwd_int {x l : Nat} (hx : x < 62500) (hl : l < 4) : zw (zw ((x : Int) - (bt x : Nat)) + (l : Nat)) = (rwd x l : Nat) := by
  have h : rwd x l + bt x = x + l := by
    have := enc_pl hx
    unfold rwd
    unfold enc at *
    omega
  have hb := bt_lt x
  rw [zw_id (x := (x : Int) - (bt x : Nat)) (by omega) (by omega), zw_id (by omega) (by omega)]
  omega
def stp6 (p : Nat) : Nat := 4 * 5 ^ p
theorem stp6_giv {xs : Nat → Int} {L : Nat} : ∀ p : Nat, p < 6 → (zgiv xs L 1).2 (p : Nat) = (stp6 p : Nat) := by
  intro p hp
  rcases lt6 hp with rfl | rfl | rfl | rfl | rfl | rfl <;> rfl
theorem enc_up {b v p : Nat} {f : Nat → Nat} (hp : p < 6) : enc b (fun r => if r = p then v else f r) + stp6 p * f p = enc b f + stp6 p * v := by
  unfold enc stp6
  rcases lt6 hp with rfl | rfl | rfl | rfl | rfl | rfl <;> simp <;> omega
theorem swd_int {x p q : Nat} (hx : x < 62500) (hp : p < 6) (hq : q < 6) (h4 : pl x p = 4) (hb : pl x q = bt x) : zw ((x : Int) + zw (zw (4 - (bt x : Nat)) * zw ((stp6 q : Nat) - (stp6 p : Nat)))) = (swd x p q : Nat) := by
  have h1 := enc_up (b := bt x) (v := bt x) (f := pl x) hp
  have hpq : p ≠ q := fun e => by
    have := bt_lt x
    rw [e] at h4
    omega
  have h2 := enc_up (b := bt x) (v := 4) (f := fun r => if r = p then bt x else pl x r) hq
  rw [enc_pl hx, h4] at h1
  simp only [if_neg (Ne.symm hpq)] at h2
  rw [hb] at h2
  have e : enc (bt x) (fun r => if r = q then 4 else if r = p then bt x else pl x r) = swd x p q := rfl
  rw [e] at h2
  have hlt := (swd_ok (n := 6) (p := p) (q := q) ⟨hx, fun r h1 h2 => absurd h2 (by omega)⟩ hp hq).1
  have hbl := bt_lt x
  generalize swd x p q = y at *
  generalize enc (bt x) (fun r => if r = p then bt x else pl x r) = z at *
  have hs : ∀ p, p < 6 → stp6 p = 4 ∨ stp6 p = 20 ∨ stp6 p = 100 ∨ stp6 p = 500 ∨ stp6 p = 2500 ∨ stp6 p = 12500 := by
    intro p hp
    rcases lt6 hp with rfl | rfl | rfl | rfl | rfl | rfl <;> decide
  have hsp := hs p hp
  have hsq := hs q hq
  generalize stp6 p = a at *
  generalize stp6 q = c at *
  generalize bt x = b at *
  have hb4 : b = 0 ∨ b = 1 ∨ b = 2 ∨ b = 3 := by omega
  rw [zw_id (x := (4 : Int) - (b : Nat)) (by omega) (by omega), zw_id (x := (c : Int) - (a : Nat)) (by omega) (by omega)]
  rcases hb4 with rfl | rfl | rfl | rfl
  · have e1 : (4 - ((0 : Nat) : Int)) * ((c : Int) - a) = 4 * (c - a) := by omega
    rw [e1, zw_id (x := 4 * ((c : Int) - a)) (by omega) (by omega), zw_id (by omega) (by omega)]
    omega
  · have e1 : (4 - ((1 : Nat) : Int)) * ((c : Int) - a) = 3 * (c - a) := by omega
    rw [e1, zw_id (x := 3 * ((c : Int) - a)) (by omega) (by omega), zw_id (by omega) (by omega)]
    omega
  · have e1 : (4 - ((2 : Nat) : Int)) * ((c : Int) - a) = 2 * (c - a) := by omega
    rw [e1, zw_id (x := 2 * ((c : Int) - a)) (by omega) (by omega), zw_id (by omega) (by omega)]
    omega
  · have e1 : (4 - ((3 : Nat) : Int)) * ((c : Int) - a) = 1 * (c - a) := by omega
    rw [e1, zw_id (x := 1 * ((c : Int) - a)) (by omega) (by omega), zw_id (by omega) (by omega)]
    omega
