/-! divisions, shifts and masks of small numbers -/
theorem toI (x : Int) (h : -2147483648 ≤ x ∧ x < 2147483648) : (Int32.ofInt x).toInt = x := by
  rw [Int32.toInt_ofInt]
  exact Int.bmod_eq_of_le (by show -((4294967296 : Nat) : Int) / 2 ≤ x; omega) (by show x < ((4294967296 : Nat) + 1 : Int) / 2; omega)
theorem zdiv_pos {x c : Int} (h0 : 0 ≤ x) (h1 : x < 2147483648) (hc : 0 < c) (hc2 : c < 2147483648) : zdiv x c = x / c := by
  unfold zdiv
  rw [Int32.toInt_div, toI x ⟨by omega, h1⟩, toI c ⟨by omega, hc2⟩, Int.tdiv_eq_ediv_of_nonneg h0]
  have h2 : 0 ≤ x / c := Int.ediv_nonneg h0 (by omega)
  have h3 : x / c ≤ x := Int.ediv_le_self _ h0
  exact zw_id (by omega) (by omega)
theorem zrem_pos {x c : Int} (h0 : 0 ≤ x) (h1 : x < 2147483648) (hc : 0 < c) (hc2 : c < 2147483648) : zrem x c = x % c := by
  have e := zdiv_pos h0 h1 hc hc2
  unfold zdiv at e
  unfold zrem
  rw [Int32.toInt_sub, Int32.toInt_mul, toI x ⟨by omega, h1⟩, e, toI c ⟨by omega, hc2⟩]
  have h4 : x % c = x - x / c * c := by
    have := Int.mul_ediv_add_emod x c
    rw [Int.mul_comm] at this
    omega
  have h5 : 0 ≤ x % c := Int.emod_nonneg _ (by omega)
  have h6 : x % c < c := Int.emod_lt_of_pos _ hc
  have h7 : (x / c * c).bmod (2 ^ 32) = x / c * c := zw_id (by omega) (by omega)
  rw [h7, ← h4]
  exact zw_id (by omega) (by omega)
theorem zdiv_nat {a c : Nat} (h1 : a < 2147483648) (hc : 0 < c) (hc2 : c < 2147483648) : zdiv (a : Nat) (c : Nat) = ((a / c : Nat) : Int) := by
  rw [zdiv_pos (by omega) (by omega) (by omega) (by omega)]
  rfl
theorem zrem_nat {a c : Nat} (h1 : a < 2147483648) (hc : 0 < c) (hc2 : c < 2147483648) : zrem (a : Nat) (c : Nat) = ((a % c : Nat) : Int) := by
  rw [zrem_pos (by omega) (by omega) (by omega) (by omega)]
  rfl
theorem bvI {a : Nat} (h : a < 2147483648) : (Int32.ofInt (a : Nat)).toBitVec = BitVec.ofNat 32 a := by
  rw [Int32.toBitVec_ofInt, BitVec.ofInt_natCast]
theorem bvT {v : BitVec 32} {a : Nat} (h : v.toNat = a) (h2 : a < 2147483648) : v.toInt = (a : Nat) := by
  rw [BitVec.toInt_eq_toNat_of_lt (by rw [h]; show 2 * a < 4294967296; omega), h]
theorem zand_nat {a c : Nat} (h1 : a < 2147483648) (h2 : c < 2147483648) : zand (a : Nat) (c : Nat) = ((a &&& c : Nat) : Int) := by
  unfold zand
  rw [← Int32.toInt_toBitVec, Int32.toBitVec_and, bvI h1, bvI h2]
  have hle : a &&& c ≤ a := Nat.and_le_left
  refine bvT ?_ (by omega)
  rw [BitVec.toNat_and, BitVec.toNat_ofNat, BitVec.toNat_ofNat, Nat.mod_eq_of_lt (by show a < 4294967296; omega), Nat.mod_eq_of_lt (by show c < 4294967296; omega)]
theorem zor_nat {a c : Nat} (h1 : a < 2147483648) (h2 : c < 2147483648) : zor (a : Nat) (c : Nat) = ((a ||| c : Nat) : Int) := by
  unfold zor
  rw [← Int32.toInt_toBitVec, Int32.toBitVec_or, bvI h1, bvI h2]
  have hle : a ||| c < 2 ^ 31 := Nat.or_lt_two_pow (by omega) (by omega)
  refine bvT ?_ (by omega)
  rw [BitVec.toNat_or, BitVec.toNat_ofNat, BitVec.toNat_ofNat, Nat.mod_eq_of_lt (by show a < 4294967296; omega), Nat.mod_eq_of_lt (by show c < 4294967296; omega)]
theorem shr_k : ∀ k : Nat, k < 32 → ((Int32.ofInt (k : Nat) &&& 31).toBitVec.smod 32).toNat = k := by decide +kernel
theorem zshr_nat {a k : Nat} (h1 : a < 2147483648) (hk : k < 32) : zshr (a : Nat) (k : Nat) = ((a / 2 ^ k : Nat) : Int) := by
  unfold zshr
  rw [← Int32.toInt_toBitVec, Int32.toBitVec_shiftRight, BitVec.sshiftRight_eq', shr_k k hk, BitVec.toInt_sshiftRight, bvI h1, bvT (a := a) (by rw [BitVec.toNat_ofNat]; exact Nat.mod_eq_of_lt (by show a < 4294967296; omega)) h1]
  rw [Int.shiftRight_eq_div_pow]
  rfl
theorem zshl_nat : ∀ k : Nat, k < 31 → zshl 1 (k : Nat) = ((2 ^ k : Nat) : Int) := zshl_bit
theorem zand3 {a : Nat} (h : a < 2147483648) : zand (a : Nat) 3 = ((a % 4 : Nat) : Int) := by
  rw [show (3 : Int) = ((3 : Nat) : Int) from rfl, zand_nat h (by decide), show 3 = 2 ^ 2 - 1 from rfl, Nat.and_two_pow_sub_one_eq_mod]
theorem zand31 {a : Nat} (h : a < 2147483648) : zand (a : Nat) 31 = ((a % 32 : Nat) : Int) := by
  rw [show (31 : Int) = ((31 : Nat) : Int) from rfl, zand_nat h (by decide), show 31 = 2 ^ 5 - 1 from rfl, Nat.and_two_pow_sub_one_eq_mod]
theorem zand65535 {a : Nat} (h : a < 2147483648) : zand (a : Nat) 65535 = ((a % 65536 : Nat) : Int) := by
  rw [show (65535 : Int) = ((65535 : Nat) : Int) from rfl, zand_nat h (by decide), show 65535 = 2 ^ 16 - 1 from rfl, Nat.and_two_pow_sub_one_eq_mod]
theorem sub_bits : ∀ a : Nat, a < 64 → ∀ c : Nat, c < 64 → ((a &&& c = c) ↔ ∀ p : Nat, p < 6 → c.testBit p = true → a.testBit p = true) := by decide +kernel
theorem and_bits : ∀ a : Nat, a < 64 → ∀ c : Nat, c < 64 → ((a &&& c = 0) ↔ ∀ p : Nat, p < 6 → a.testBit p = true → c.testBit p = false) := by decide +kernel
theorem zand_sub {a c : Nat} (ha : a < 64) (hc : c < 64) : zand (a : Nat) (c : Nat) = (c : Nat) ↔ ∀ p : Nat, p < 6 → c.testBit p = true → a.testBit p = true := by
  rw [zand_nn a ha c hc, ← sub_bits a ha c hc]
  omega
theorem zand_dis {a c : Nat} (ha : a < 64) (hc : c < 64) : zand (a : Nat) (c : Nat) = 0 ↔ ∀ p : Nat, p < 6 → a.testBit p = true → c.testBit p = false := by
  rw [zand_nn a ha c hc, ← and_bits a ha c hc]
  omega
theorem zand_all {a : Nat} (ha : a < 64) : ¬ zand (a : Nat) (-1) = -1 := by
  have h : ∀ a : Nat, a < 64 → ¬ zand (a : Nat) (-1) = -1 := by decide +kernel
  exact h a ha
/-- a set of six people told by its bits -/
theorem btn_eq {f : Nat → Bool} {n a : Nat} (hn : n ≤ 6) (ha : a < 64) (h : ∀ p, p < 6 → a.testBit p = (decide (p < n) && f p)) : a = btn f n :=
  bit6_ext ha (btn_lt64 f hn) (fun p hp => by rw [h p hp, btn_bit])
theorem pop_gt1 {f : Nat → Bool} {n : Nat} : 1 < cnt f n ↔ ∃ p q, p < q ∧ q < n ∧ f p = true ∧ f q = true := by
  induction n with
  | zero => simp [cnt]
  | succ n ih =>
    simp only [cnt]
    have pos : ∀ m, 0 < cnt f m ↔ ∃ p, p < m ∧ f p = true := by
      intro m
      induction m with
      | zero => simp [cnt]
      | succ m ih2 =>
        simp only [cnt]
        by_cases hf : f m = true
        · rw [if_pos hf]
          exact ⟨fun _ => ⟨m, by omega, hf⟩, fun _ => by omega⟩
        · rw [if_neg hf]
          constructor
          · intro h
            obtain ⟨p, h1, h2⟩ := ih2.mp h
            exact ⟨p, by omega, h2⟩
          · rintro ⟨p, h1, h2⟩
            have : p ≠ m := fun e => hf (e ▸ h2)
            exact ih2.mpr ⟨p, by omega, h2⟩
    by_cases hf : f n = true
    · rw [if_pos hf]
      constructor
      · intro h
        obtain ⟨p, h1, h2⟩ := (pos n).mp (by omega)
        exact ⟨p, n, h1, by omega, h2, hf⟩
      · rintro ⟨p, q, h1, h2, h3, h4⟩
        have := (pos n).mpr ⟨p, by omega, h3⟩
        omega
    · rw [if_neg hf]
      constructor
      · intro h
        obtain ⟨p, q, h1, h2, h3, h4⟩ := ih.mp h
        exact ⟨p, q, h1, by omega, h3, h4⟩
      · rintro ⟨p, q, h1, h2, h3, h4⟩
        have : q ≠ n := fun e => hf (e ▸ h4)
        exact ih.mpr ⟨p, q, h1, by omega, h3, h4⟩
