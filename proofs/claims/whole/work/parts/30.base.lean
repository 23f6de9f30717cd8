/-! numbers: bits and compares of the shadow, in plain words -/
theorem lCmp_lt (a b : Int) : (lCmp a b < 0) = (a < b) := by
  unfold lCmp
  apply propext
  split
  · constructor <;> intro h <;> omega
  · split
    · constructor <;> intro h <;> omega
    · constructor <;> intro h <;> omega
theorem lCmp_gt (a b : Int) : (0 < lCmp a b) = (b < a) := by
  unfold lCmp
  apply propext
  split
  · constructor <;> intro h <;> omega
  · split
    · constructor <;> intro h <;> omega
    · constructor <;> intro h <;> omega
theorem lCmp_eq (a b : Int) : (lCmp a b = 0) = (a = b) := by
  unfold lCmp
  apply propext
  split
  · constructor <;> intro h <;> omega
  · split
    · constructor <;> intro h <;> omega
    · constructor <;> intro h <;> omega
theorem o32N (n : Nat) : Int32.ofInt (n : Int) = Int32.ofNat n := Int32.ofInt_eq_ofNat
theorem o32_tn {n : Nat} (h : n < 2147483648) : (Int32.ofNat n).toInt = (n : Int) := by
  rw [← o32N, i32_ti ⟨by omega, by omega⟩]
theorem bAnd_N {a b : Nat} (ha : a < 2147483648) (hb : b < 2147483648) : bAnd (a : Int) (b : Int) = ((a &&& b : Nat) : Int) := by
  unfold bAnd
  rw [o32N, o32N]
  have : Int32.ofNat a &&& Int32.ofNat b = Int32.ofNat (a &&& b) := by
    apply Int32.toBitVec_inj.mp
    simp [Int32.toBitVec_and, Int32.toBitVec_ofNat']
  rw [this, o32_tn (Nat.lt_of_le_of_lt Nat.and_le_left ha)]
theorem bOr_N {a b : Nat} (ha : a < 2147483648) (hb : b < 2147483648) : bOr (a : Int) (b : Int) = ((a ||| b : Nat) : Int) := by
  unfold bOr
  rw [o32N, o32N]
  have : Int32.ofNat a ||| Int32.ofNat b = Int32.ofNat (a ||| b) := by
    apply Int32.toBitVec_inj.mp
    simp [Int32.toBitVec_or, Int32.toBitVec_ofNat']
  rw [this, o32_tn (Nat.or_lt_two_pow (n := 31) ha hb)]
theorem b31 : ∀ b : Nat, b < 32 → ((Int32.ofInt (b : Int)) &&& 31) = Int32.ofNat b := by decide
theorem bShl_N {a b : Nat} (hb : b < 32) (h : a * 2 ^ b < 2147483648) : bShl (a : Int) (b : Int) = ((a * 2 ^ b : Nat) : Int) := by
  unfold bShl
  rw [b31 b hb, o32N]
  have : Int32.ofNat a <<< Int32.ofNat b = Int32.ofNat (a * 2 ^ b) := by
    have := pk_shlN (n := a) (Int32.ofNat b) b (by
      have : ∀ b : Nat, b < 32 → ((Int32.ofNat b).toBitVec.smod 32).toNat = b := by decide
      exact this b hb) (by omega)
    exact this
  rw [this, o32_tn h]
theorem bShr_N {a b : Nat} (ha : a < 2147483648) (hb : b < 32) : bShr (a : Int) (b : Int) = ((a / 2 ^ b : Nat) : Int) := by
  unfold bShr
  rw [b31 b hb, o32N]
  have : Int32.ofNat a >>> Int32.ofNat b = Int32.ofNat (a / 2 ^ b) := by
    have := pk_shrN (n := a) (by omega) (Int32.ofNat b) b (by
      have : ∀ b : Nat, b < 32 → ((Int32.ofNat b).toBitVec.smod 32).toNat = b := by decide
      exact this b hb)
    exact this
  rw [this, o32_tn (Nat.lt_of_le_of_lt (Nat.div_le_self _ _) ha)]
/-- a bit of a number, as an int -/
theorem bit_N {a b : Nat} (ha : a < 2147483648) (hb : b < 32) : bAnd (bShr (a : Int) (b : Int)) 1 = ((a / 2 ^ b % 2 : Nat) : Int) := by
  rw [bShr_N ha hb]
  have h1 : a / 2 ^ b < 2147483648 := Nat.lt_of_le_of_lt (Nat.div_le_self _ _) ha
  have := bAnd_N h1 (show (1 : Nat) < 2147483648 by decide)
  rw [show ((1 : Nat) : Int) = 1 from rfl] at this
  rw [this, Nat.and_one_is_mod]
def b01 (c : Prop) [Decidable c] : Int := if c then 1 else 0
theorem b01_eq0 (c : Prop) [Decidable c] : (b01 c = 0) = ¬ c := by
  unfold b01
  split <;> simp_all
theorem b01_or (c : Prop) [Decidable c] : b01 c = 0 ∨ b01 c = 1 := by
  unfold b01
  split
  · exact Or.inr rfl
  · exact Or.inl rfl
/-! leaves of the reference -/
theorem e_in (g : Hp) (a lo hi : Int) : EV 8 qX12_in 0 [vL a, vU, vL lo, vU, vL hi, vU] [] g = some (some (vI (b01 (lo ≤ a ∧ a ≤ hi))), g) := by
  rw [bX12_in_0]
  simp only [lCmp_lt]
  by_cases h1 : a < lo
  · rw [if_pos h1, bX12_in_17, bX12_in_18 _ _ _ _ _ (Or.inl rfl)]
    unfold b01
    rw [if_neg (by omega)]
  · rw [if_neg h1, bX12_in_6]
    simp only [lCmp_gt]
    by_cases h2 : hi < a
    · rw [if_pos h2, bX12_in_17, bX12_in_18 _ _ _ _ _ (Or.inl rfl)]
      unfold b01
      rw [if_neg (by omega)]
    · rw [if_neg h2, bX12_in_13, bX12_in_18 _ _ _ _ _ (Or.inr rfl)]
      unfold b01
      rw [if_pos (by omega)]
theorem e_isRoom (g : Hp) (a : Int) : EV 9 qX12_isRoom 0 [vI a] [] g = some (some (vI (b01 (0 ≤ a ∧ a ≤ 4))), g) := by
  rw [bX12_isRoom_0, e_in, bnd_some]
  exact bX12_isRoom_9 _ _ _ (b01_or _)
theorem e_isBridge (g : Hp) (r b : Int) (hr : 0 ≤ r ∧ r < 440) (h : 0 ≤ g 87 r ∧ g 87 r ≤ 5) : EV 9 qX12_isBridge 0 [vR 86, vI r, vI b] [] g = some (some (vI (b01 (0 ≤ b ∧ b ≤ g 87 r - 1))), g) := by
  rw [bX12_isBridge_0 _ _ _ (by omega) (by omega) (by simp only [Int.add_zero]; omega), e_in, bnd_some]
  simp only [Int.add_zero]
  exact bX12_isBridge_17 _ _ _ _ (b01_or _)
