/-! leaves of the reference, on -/
theorem e_has (g : Hp) (s k : Nat) (hs : s < 2147483648) (hk : k < 32) : EV 8 qX12_has 0 [vI (s : Int), vI (k : Int)] [] g = some (some (vI (b01 (s.testBit k = true))), g) := by
  rw [bX12_has_0, bit_N hs hk]
  have e : (((s / 2 ^ k % 2 : Nat) : Int) = 1) = (s.testBit k = true) := by
    rw [Nat.testBit_eq_decide_div_mod_eq]
    apply propext
    simp only [decide_eq_true_eq]
    omega
  simp only [e]
  by_cases h : s.testBit k = true
  · rw [if_pos h, bX12_has_9, bX12_has_14 _ _ _ _ (Or.inr rfl)]
    simp [b01, h]
  · rw [if_neg h, bX12_has_13, bX12_has_14 _ _ _ _ (Or.inl rfl)]
    simp [b01, h]
/-- what is told of a refusal -/
def metH (g : Hp) (v : Int) : Hp := if v = -2 ∨ v = -3 ∨ v = -4 then up g 90 (-2 - v) (g 90 (-2 - v) + 1) else g
theorem e_met (g : Hp) (v : Int) (h : ∀ k, 0 ≤ k → k < 3 → 0 ≤ g 90 k ∧ g 90 k < 2147483647) : EV 8 qX12_met 0 [vR 86, vI v] [] g = some (some (vI v), metH g v) := by
  have key : v = -2 ∨ v = -3 ∨ v = -4 → EV 8 qX12_met 18 [vR 86, vI v] [] g = some (some (vI v), metH g v) := fun hv => by
    have := h (-2 - v) (by omega) (by omega)
    rw [bX12_met_18 _ _ (by omega) (by omega) (by omega) (by omega), bX12_met_31, metH, if_pos hv]
  rw [bX12_met_0]
  by_cases h1 : v = -2
  · rw [if_pos h1, key (by omega)]
  · rw [if_neg h1, bX12_met_6]
    by_cases h2 : v = -3
    · rw [if_pos h2, key (by omega)]
    · rw [if_neg h2, bX12_met_12]
      by_cases h3 : v = -4
      · rw [if_pos h3, key (by omega)]
      · rw [if_neg h3, bX12_met_31, metH, if_neg (by omega)]
theorem e_bad (g : Hp) (h : ∀ k, 0 ≤ k → k < 3 → 0 ≤ g 90 k ∧ g 90 k < 2147483647) : EV 9 qX12_bad 0 [vR 86] [] g = some (some (vI (-2)), metH g (-2)) := by
  rw [bX12_bad_0, e_met _ _ h, bnd_some]
  exact bX12_bad_6 _ _
/-- w[to..] becomes w[from..], n of them -/
def cpW (g : Hp) (fr to n : Int) : Hp := fun a i => if a = 87 ∧ to ≤ i ∧ i < to + n then g 87 (fr + (i - to)) else g a i
theorem cpW_succ (g : Hp) (fr to n : Int) (hd : fr + 110 ≤ to ∨ to + 110 ≤ fr) (hn : 0 ≤ n ∧ n < 110) : up (cpW g fr to n) 87 (to + n) (cpW g fr to n 87 (fr + n)) = cpW g fr to (n + 1) := by
  funext a i
  unfold up cpW
  by_cases ha : a = 87
  · subst ha
    by_cases hi : i = to + n
    · subst hi
      rw [if_pos ⟨rfl, rfl⟩, if_neg (by omega), if_pos (by omega)]
      congr 1
      omega
    · rw [if_neg (fun h => hi h.2)]
      by_cases h2 : to ≤ i ∧ i < to + n
      · rw [if_pos ⟨rfl, h2⟩, if_pos ⟨rfl, by omega⟩]
      · rw [if_neg (fun h => h2 h.2), if_neg (fun h => by omega)]
  · rw [if_neg (fun h => ha h.1), if_neg (fun h => ha h.1), if_neg (fun h => ha h.1)]
theorem e_copy (g : Hp) (fr to : Int) (hf : 0 ≤ fr ∧ fr + 110 ≤ 440) (ht : 0 ≤ to ∧ to + 110 ≤ 440) (hd : fr + 110 ≤ to ∨ to + 110 ≤ fr) : EV 8 qX12_copy 0 [vR 86, vI fr, vI to, vU] [] g = some (none, cpW g fr to 110) := by
  have loop : ∀ (m : Nat) (n : Int), 0 ≤ n → n + m = 110 → EV 8 qX12_copy 2 [vR 86, vI fr, vI to, vI n] [] (cpW g fr to n) = some (none, cpW g fr to 110) := by
    intro m
    induction m with
    | zero =>
      intro n h0 hn
      rw [bX12_copy_2, if_pos (by omega), bX12_copy_30]
      rw [show n = 110 by omega]
    | succ m ih =>
      intro n h0 hn
      rw [bX12_copy_2, if_neg (by omega), bX12_copy_8 _ _ _ _ (by omega) (by omega) (by omega) (by omega) (by omega)]
      rw [cpW_succ g fr to n hd (by omega)]
      exact ih (n + 1) (by omega) (by omega)
  rw [bX12_copy_0]
  have h0 : g = cpW g fr to 0 := by
    funext a i
    unfold cpW
    rw [if_neg (by omega)]
  have := loop 110 0 (by omega) (by omega)
  rw [← h0] at this
  exact this
theorem e_isOne (g : Hp) (p : Int) (h : 0 ≤ g 87 29 ∧ g 87 29 ≤ 3) : EV 9 qX12_isOne 0 [vR 86, vI p] [] g = some (some (vI (b01 (0 ≤ p ∧ p ≤ g 87 29 - 1))), g) := by
  rw [bX12_isOne_0 _ _ (by omega), e_in, bnd_some]
  exact bX12_isOne_16 _ _ _ (b01_or _)
theorem e_isPlace (g : Hp) (p : Int) (h : 0 ≤ g 87 0 ∧ g 87 0 ≤ 5) : EV 9 qX12_isPlace 0 [vR 86, vI p] [] g = some (some (vI (b01 (0 ≤ p ∧ p ≤ 4 + g 87 0))), g) := by
  rw [bX12_isPlace_0 _ _ (by omega), e_in, bnd_some]
  exact bX12_isPlace_15 _ _ _ (b01_or _)
/-- whether a bridge is tied, by the chains of the region at r -/
def tied (g : Hp) (r n b : Int) : Prop := ∃ c, 0 ≤ c ∧ c < n ∧ (g 87 (r + 23 + c) = b ∨ g 87 (r + 25 + c) = b)
