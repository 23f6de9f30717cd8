/-! text: the reference's tokens -/
def hs (f : Nat → Int) : Nat → Int
  | 0 => 0
  | n + 1 => 32 * hs f n + (f n - 96)
theorem hs_w0 (f : Nat → Int) {n : Nat} (hf : ∀ k, k < n → 97 ≤ f k ∧ f k ≤ 122) : hs f (min n 7) = 86282469 ↔ n = 6 ∧ f 0 = 98 ∧ f 1 = 114 ∧ f 2 = 105 ∧ f 3 = 100 ∧ f 4 = 103 ∧ f 5 = 101 := by
  by_cases h7 : 7 ≤ n
  · rw [Nat.min_eq_right h7]
    have q0 := hf 0 (by omega)
    have q1 := hf 1 (by omega)
    have q2 := hf 2 (by omega)
    have q3 := hf 3 (by omega)
    have q4 := hf 4 (by omega)
    have q5 := hf 5 (by omega)
    have q6 := hf 6 (by omega)
    have e : hs f 7 = 32 * (32 * (32 * (32 * (32 * (32 * (32 * 0 + (f 0 - 96)) + (f 1 - 96)) + (f 2 - 96)) + (f 3 - 96)) + (f 4 - 96)) + (f 5 - 96)) + (f 6 - 96) := rfl
    omega
  · rw [Nat.min_eq_left (by omega)]
    rcases (by omega : n = 0 ∨ n = 1 ∨ n = 2 ∨ n = 3 ∨ n = 4 ∨ n = 5 ∨ n = 6) with rfl | rfl | rfl | rfl | rfl | rfl | rfl
    · have e : hs f 0 = 0 := rfl
      omega
    · have e : hs f 1 = 32 * 0 + (f 0 - 96) := rfl
      have q0 := hf 0 (by omega)
      omega
    · have e : hs f 2 = 32 * (32 * 0 + (f 0 - 96)) + (f 1 - 96) := rfl
      have q0 := hf 0 (by omega)
      have q1 := hf 1 (by omega)
      omega
    · have e : hs f 3 = 32 * (32 * (32 * 0 + (f 0 - 96)) + (f 1 - 96)) + (f 2 - 96) := rfl
      have q0 := hf 0 (by omega)
      have q1 := hf 1 (by omega)
      have q2 := hf 2 (by omega)
      omega
    · have e : hs f 4 = 32 * (32 * (32 * (32 * 0 + (f 0 - 96)) + (f 1 - 96)) + (f 2 - 96)) + (f 3 - 96) := rfl
      have q0 := hf 0 (by omega)
      have q1 := hf 1 (by omega)
      have q2 := hf 2 (by omega)
      have q3 := hf 3 (by omega)
      omega
    · have e : hs f 5 = 32 * (32 * (32 * (32 * (32 * 0 + (f 0 - 96)) + (f 1 - 96)) + (f 2 - 96)) + (f 3 - 96)) + (f 4 - 96) := rfl
      have q0 := hf 0 (by omega)
      have q1 := hf 1 (by omega)
      have q2 := hf 2 (by omega)
      have q3 := hf 3 (by omega)
      have q4 := hf 4 (by omega)
      omega
    · have e : hs f 6 = 32 * (32 * (32 * (32 * (32 * (32 * 0 + (f 0 - 96)) + (f 1 - 96)) + (f 2 - 96)) + (f 3 - 96)) + (f 4 - 96)) + (f 5 - 96) := rfl
      have q0 := hf 0 (by omega)
      have q1 := hf 1 (by omega)
      have q2 := hf 2 (by omega)
      have q3 := hf 3 (by omega)
      have q4 := hf 4 (by omega)
      have q5 := hf 5 (by omega)
      omega
theorem hs_w1 (f : Nat → Int) {n : Nat} (hf : ∀ k, k < n → 97 ≤ f k ∧ f k ≤ 122) : hs f (min n 7) = 147182 ↔ n = 4 ∧ f 0 = 100 ∧ f 1 = 111 ∧ f 2 = 119 ∧ f 3 = 110 := by
  by_cases h7 : 7 ≤ n
  · rw [Nat.min_eq_right h7]
    have q0 := hf 0 (by omega)
    have q1 := hf 1 (by omega)
    have q2 := hf 2 (by omega)
    have q3 := hf 3 (by omega)
    have q4 := hf 4 (by omega)
    have q5 := hf 5 (by omega)
    have q6 := hf 6 (by omega)
    have e : hs f 7 = 32 * (32 * (32 * (32 * (32 * (32 * (32 * 0 + (f 0 - 96)) + (f 1 - 96)) + (f 2 - 96)) + (f 3 - 96)) + (f 4 - 96)) + (f 5 - 96)) + (f 6 - 96) := rfl
    omega
  · rw [Nat.min_eq_left (by omega)]
    rcases (by omega : n = 0 ∨ n = 1 ∨ n = 2 ∨ n = 3 ∨ n = 4 ∨ n = 5 ∨ n = 6) with rfl | rfl | rfl | rfl | rfl | rfl | rfl
    · have e : hs f 0 = 0 := rfl
      omega
    · have e : hs f 1 = 32 * 0 + (f 0 - 96) := rfl
      have q0 := hf 0 (by omega)
      omega
    · have e : hs f 2 = 32 * (32 * 0 + (f 0 - 96)) + (f 1 - 96) := rfl
      have q0 := hf 0 (by omega)
      have q1 := hf 1 (by omega)
      omega
    · have e : hs f 3 = 32 * (32 * (32 * 0 + (f 0 - 96)) + (f 1 - 96)) + (f 2 - 96) := rfl
      have q0 := hf 0 (by omega)
      have q1 := hf 1 (by omega)
      have q2 := hf 2 (by omega)
      omega
    · have e : hs f 4 = 32 * (32 * (32 * (32 * 0 + (f 0 - 96)) + (f 1 - 96)) + (f 2 - 96)) + (f 3 - 96) := rfl
      have q0 := hf 0 (by omega)
      have q1 := hf 1 (by omega)
      have q2 := hf 2 (by omega)
      have q3 := hf 3 (by omega)
      omega
    · have e : hs f 5 = 32 * (32 * (32 * (32 * (32 * 0 + (f 0 - 96)) + (f 1 - 96)) + (f 2 - 96)) + (f 3 - 96)) + (f 4 - 96) := rfl
      have q0 := hf 0 (by omega)
      have q1 := hf 1 (by omega)
      have q2 := hf 2 (by omega)
      have q3 := hf 3 (by omega)
      have q4 := hf 4 (by omega)
      omega
    · have e : hs f 6 = 32 * (32 * (32 * (32 * (32 * (32 * 0 + (f 0 - 96)) + (f 1 - 96)) + (f 2 - 96)) + (f 3 - 96)) + (f 4 - 96)) + (f 5 - 96) := rfl
      have q0 := hf 0 (by omega)
      have q1 := hf 1 (by omega)
      have q2 := hf 2 (by omega)
      have q3 := hf 3 (by omega)
      have q4 := hf 4 (by omega)
      have q5 := hf 5 (by omega)
      omega
theorem hs_w2 (f : Nat → Int) {n : Nat} (hf : ∀ k, k < n → 97 ≤ f k ∧ f k ≤ 122) : hs f (min n 7) = 3409198 ↔ n = 5 ∧ f 0 = 99 ∧ f 1 = 104 ∧ f 2 = 97 ∧ f 3 = 105 ∧ f 4 = 110 := by
  by_cases h7 : 7 ≤ n
  · rw [Nat.min_eq_right h7]
    have q0 := hf 0 (by omega)
    have q1 := hf 1 (by omega)
    have q2 := hf 2 (by omega)
    have q3 := hf 3 (by omega)
    have q4 := hf 4 (by omega)
    have q5 := hf 5 (by omega)
    have q6 := hf 6 (by omega)
    have e : hs f 7 = 32 * (32 * (32 * (32 * (32 * (32 * (32 * 0 + (f 0 - 96)) + (f 1 - 96)) + (f 2 - 96)) + (f 3 - 96)) + (f 4 - 96)) + (f 5 - 96)) + (f 6 - 96) := rfl
    omega
  · rw [Nat.min_eq_left (by omega)]
    rcases (by omega : n = 0 ∨ n = 1 ∨ n = 2 ∨ n = 3 ∨ n = 4 ∨ n = 5 ∨ n = 6) with rfl | rfl | rfl | rfl | rfl | rfl | rfl
    · have e : hs f 0 = 0 := rfl
      omega
    · have e : hs f 1 = 32 * 0 + (f 0 - 96) := rfl
      have q0 := hf 0 (by omega)
      omega
    · have e : hs f 2 = 32 * (32 * 0 + (f 0 - 96)) + (f 1 - 96) := rfl
      have q0 := hf 0 (by omega)
      have q1 := hf 1 (by omega)
      omega
    · have e : hs f 3 = 32 * (32 * (32 * 0 + (f 0 - 96)) + (f 1 - 96)) + (f 2 - 96) := rfl
      have q0 := hf 0 (by omega)
      have q1 := hf 1 (by omega)
      have q2 := hf 2 (by omega)
      omega
    · have e : hs f 4 = 32 * (32 * (32 * (32 * 0 + (f 0 - 96)) + (f 1 - 96)) + (f 2 - 96)) + (f 3 - 96) := rfl
      have q0 := hf 0 (by omega)
      have q1 := hf 1 (by omega)
      have q2 := hf 2 (by omega)
      have q3 := hf 3 (by omega)
      omega
    · have e : hs f 5 = 32 * (32 * (32 * (32 * (32 * 0 + (f 0 - 96)) + (f 1 - 96)) + (f 2 - 96)) + (f 3 - 96)) + (f 4 - 96) := rfl
      have q0 := hf 0 (by omega)
      have q1 := hf 1 (by omega)
      have q2 := hf 2 (by omega)
      have q3 := hf 3 (by omega)
      have q4 := hf 4 (by omega)
      omega
    · have e : hs f 6 = 32 * (32 * (32 * (32 * (32 * (32 * 0 + (f 0 - 96)) + (f 1 - 96)) + (f 2 - 96)) + (f 3 - 96)) + (f 4 - 96)) + (f 5 - 96) := rfl
      have q0 := hf 0 (by omega)
      have q1 := hf 1 (by omega)
      have q2 := hf 2 (by omega)
      have q3 := hf 3 (by omega)
      have q4 := hf 4 (by omega)
      have q5 := hf 5 (by omega)
      omega
theorem hs_w3 (f : Nat → Int) {n : Nat} (hf : ∀ k, k < n → 97 ≤ f k ∧ f k ≤ 122) : hs f (min n 7) = 15813 ↔ n = 3 ∧ f 0 = 111 ∧ f 1 = 110 ∧ f 2 = 101 := by
  by_cases h7 : 7 ≤ n
  · rw [Nat.min_eq_right h7]
    have q0 := hf 0 (by omega)
    have q1 := hf 1 (by omega)
    have q2 := hf 2 (by omega)
    have q3 := hf 3 (by omega)
    have q4 := hf 4 (by omega)
    have q5 := hf 5 (by omega)
    have q6 := hf 6 (by omega)
    have e : hs f 7 = 32 * (32 * (32 * (32 * (32 * (32 * (32 * 0 + (f 0 - 96)) + (f 1 - 96)) + (f 2 - 96)) + (f 3 - 96)) + (f 4 - 96)) + (f 5 - 96)) + (f 6 - 96) := rfl
    omega
  · rw [Nat.min_eq_left (by omega)]
    rcases (by omega : n = 0 ∨ n = 1 ∨ n = 2 ∨ n = 3 ∨ n = 4 ∨ n = 5 ∨ n = 6) with rfl | rfl | rfl | rfl | rfl | rfl | rfl
    · have e : hs f 0 = 0 := rfl
      omega
    · have e : hs f 1 = 32 * 0 + (f 0 - 96) := rfl
      have q0 := hf 0 (by omega)
      omega
    · have e : hs f 2 = 32 * (32 * 0 + (f 0 - 96)) + (f 1 - 96) := rfl
      have q0 := hf 0 (by omega)
      have q1 := hf 1 (by omega)
      omega
    · have e : hs f 3 = 32 * (32 * (32 * 0 + (f 0 - 96)) + (f 1 - 96)) + (f 2 - 96) := rfl
      have q0 := hf 0 (by omega)
      have q1 := hf 1 (by omega)
      have q2 := hf 2 (by omega)
      omega
    · have e : hs f 4 = 32 * (32 * (32 * (32 * 0 + (f 0 - 96)) + (f 1 - 96)) + (f 2 - 96)) + (f 3 - 96) := rfl
      have q0 := hf 0 (by omega)
      have q1 := hf 1 (by omega)
      have q2 := hf 2 (by omega)
      have q3 := hf 3 (by omega)
      omega
    · have e : hs f 5 = 32 * (32 * (32 * (32 * (32 * 0 + (f 0 - 96)) + (f 1 - 96)) + (f 2 - 96)) + (f 3 - 96)) + (f 4 - 96) := rfl
      have q0 := hf 0 (by omega)
      have q1 := hf 1 (by omega)
      have q2 := hf 2 (by omega)
      have q3 := hf 3 (by omega)
      have q4 := hf 4 (by omega)
      omega
    · have e : hs f 6 = 32 * (32 * (32 * (32 * (32 * (32 * 0 + (f 0 - 96)) + (f 1 - 96)) + (f 2 - 96)) + (f 3 - 96)) + (f 4 - 96)) + (f 5 - 96) := rfl
      have q0 := hf 0 (by omega)
      have q1 := hf 1 (by omega)
      have q2 := hf 2 (by omega)
      have q3 := hf 3 (by omega)
      have q4 := hf 4 (by omega)
      have q5 := hf 5 (by omega)
      omega
theorem hs_w4 (f : Nat → Int) {n : Nat} (hf : ∀ k, k < n → 97 ≤ f k ∧ f k ≤ 122) : hs f (min n 7) = 408612 ↔ n = 4 ∧ f 0 = 108 ∧ f 1 = 111 ∧ f 2 = 97 ∧ f 3 = 100 := by
  by_cases h7 : 7 ≤ n
  · rw [Nat.min_eq_right h7]
    have q0 := hf 0 (by omega)
    have q1 := hf 1 (by omega)
    have q2 := hf 2 (by omega)
    have q3 := hf 3 (by omega)
    have q4 := hf 4 (by omega)
    have q5 := hf 5 (by omega)
    have q6 := hf 6 (by omega)
    have e : hs f 7 = 32 * (32 * (32 * (32 * (32 * (32 * (32 * 0 + (f 0 - 96)) + (f 1 - 96)) + (f 2 - 96)) + (f 3 - 96)) + (f 4 - 96)) + (f 5 - 96)) + (f 6 - 96) := rfl
    omega
  · rw [Nat.min_eq_left (by omega)]
    rcases (by omega : n = 0 ∨ n = 1 ∨ n = 2 ∨ n = 3 ∨ n = 4 ∨ n = 5 ∨ n = 6) with rfl | rfl | rfl | rfl | rfl | rfl | rfl
    · have e : hs f 0 = 0 := rfl
      omega
    · have e : hs f 1 = 32 * 0 + (f 0 - 96) := rfl
      have q0 := hf 0 (by omega)
      omega
    · have e : hs f 2 = 32 * (32 * 0 + (f 0 - 96)) + (f 1 - 96) := rfl
      have q0 := hf 0 (by omega)
      have q1 := hf 1 (by omega)
      omega
    · have e : hs f 3 = 32 * (32 * (32 * 0 + (f 0 - 96)) + (f 1 - 96)) + (f 2 - 96) := rfl
      have q0 := hf 0 (by omega)
      have q1 := hf 1 (by omega)
      have q2 := hf 2 (by omega)
      omega
    · have e : hs f 4 = 32 * (32 * (32 * (32 * 0 + (f 0 - 96)) + (f 1 - 96)) + (f 2 - 96)) + (f 3 - 96) := rfl
      have q0 := hf 0 (by omega)
      have q1 := hf 1 (by omega)
      have q2 := hf 2 (by omega)
      have q3 := hf 3 (by omega)
      omega
    · have e : hs f 5 = 32 * (32 * (32 * (32 * (32 * 0 + (f 0 - 96)) + (f 1 - 96)) + (f 2 - 96)) + (f 3 - 96)) + (f 4 - 96) := rfl
      have q0 := hf 0 (by omega)
      have q1 := hf 1 (by omega)
      have q2 := hf 2 (by omega)
      have q3 := hf 3 (by omega)
      have q4 := hf 4 (by omega)
      omega
    · have e : hs f 6 = 32 * (32 * (32 * (32 * (32 * (32 * 0 + (f 0 - 96)) + (f 1 - 96)) + (f 2 - 96)) + (f 3 - 96)) + (f 4 - 96)) + (f 5 - 96) := rfl
      have q0 := hf 0 (by omega)
      have q1 := hf 1 (by omega)
      have q2 := hf 2 (by omega)
      have q3 := hf 3 (by omega)
      have q4 := hf 4 (by omega)
      have q5 := hf 5 (by omega)
      omega
theorem wEq_w0 {b : Int → Int} {j e : Int} {n : Nat} (he : e = j + n) (hf : ∀ k : Nat, k < n → 97 ≤ b (j + k) ∧ b (j + k) ≤ 122) : wEq (sTxt 200) b j e ↔ hs (fun k => b (j + k)) (min n 7) = 86282469 := by
  rw [hs_w0 (fun k => b (j + k)) hf]
  have hl : (sTxt 200).length = 6 := rfl
  constructor
  · rintro ⟨a, c⟩
    refine ⟨by omega, ?_, ?_, ?_, ?_, ?_, ?_⟩
    · exact (c 0 (by omega)).symm
    · exact (c 1 (by omega)).symm
    · exact (c 2 (by omega)).symm
    · exact (c 3 (by omega)).symm
    · exact (c 4 (by omega)).symm
    · exact (c 5 (by omega)).symm
  · rintro ⟨a, q0, q1, q2, q3, q4, q5⟩
    refine ⟨by omega, fun i hi => ?_⟩
    rw [hl] at hi
    rcases (by omega : i = 0 ∨ i = 1 ∨ i = 2 ∨ i = 3 ∨ i = 4 ∨ i = 5) with rfl | rfl | rfl | rfl | rfl | rfl
    · exact q0.symm
    · exact q1.symm
    · exact q2.symm
    · exact q3.symm
    · exact q4.symm
    · exact q5.symm
theorem wEq_w1 {b : Int → Int} {j e : Int} {n : Nat} (he : e = j + n) (hf : ∀ k : Nat, k < n → 97 ≤ b (j + k) ∧ b (j + k) ≤ 122) : wEq (sTxt 201) b j e ↔ hs (fun k => b (j + k)) (min n 7) = 147182 := by
  rw [hs_w1 (fun k => b (j + k)) hf]
  have hl : (sTxt 201).length = 4 := rfl
  constructor
  · rintro ⟨a, c⟩
    refine ⟨by omega, ?_, ?_, ?_, ?_⟩
    · exact (c 0 (by omega)).symm
    · exact (c 1 (by omega)).symm
    · exact (c 2 (by omega)).symm
    · exact (c 3 (by omega)).symm
  · rintro ⟨a, q0, q1, q2, q3⟩
    refine ⟨by omega, fun i hi => ?_⟩
    rw [hl] at hi
    rcases (by omega : i = 0 ∨ i = 1 ∨ i = 2 ∨ i = 3) with rfl | rfl | rfl | rfl
    · exact q0.symm
    · exact q1.symm
    · exact q2.symm
    · exact q3.symm
theorem wEq_w2 {b : Int → Int} {j e : Int} {n : Nat} (he : e = j + n) (hf : ∀ k : Nat, k < n → 97 ≤ b (j + k) ∧ b (j + k) ≤ 122) : wEq (sTxt 202) b j e ↔ hs (fun k => b (j + k)) (min n 7) = 3409198 := by
  rw [hs_w2 (fun k => b (j + k)) hf]
  have hl : (sTxt 202).length = 5 := rfl
  constructor
  · rintro ⟨a, c⟩
    refine ⟨by omega, ?_, ?_, ?_, ?_, ?_⟩
    · exact (c 0 (by omega)).symm
    · exact (c 1 (by omega)).symm
    · exact (c 2 (by omega)).symm
    · exact (c 3 (by omega)).symm
    · exact (c 4 (by omega)).symm
  · rintro ⟨a, q0, q1, q2, q3, q4⟩
    refine ⟨by omega, fun i hi => ?_⟩
    rw [hl] at hi
    rcases (by omega : i = 0 ∨ i = 1 ∨ i = 2 ∨ i = 3 ∨ i = 4) with rfl | rfl | rfl | rfl | rfl
    · exact q0.symm
    · exact q1.symm
    · exact q2.symm
    · exact q3.symm
    · exact q4.symm
theorem wEq_w3 {b : Int → Int} {j e : Int} {n : Nat} (he : e = j + n) (hf : ∀ k : Nat, k < n → 97 ≤ b (j + k) ∧ b (j + k) ≤ 122) : wEq (sTxt 203) b j e ↔ hs (fun k => b (j + k)) (min n 7) = 15813 := by
  rw [hs_w3 (fun k => b (j + k)) hf]
  have hl : (sTxt 203).length = 3 := rfl
  constructor
  · rintro ⟨a, c⟩
    refine ⟨by omega, ?_, ?_, ?_⟩
    · exact (c 0 (by omega)).symm
    · exact (c 1 (by omega)).symm
    · exact (c 2 (by omega)).symm
  · rintro ⟨a, q0, q1, q2⟩
    refine ⟨by omega, fun i hi => ?_⟩
    rw [hl] at hi
    rcases (by omega : i = 0 ∨ i = 1 ∨ i = 2) with rfl | rfl | rfl
    · exact q0.symm
    · exact q1.symm
    · exact q2.symm
theorem wEq_w4 {b : Int → Int} {j e : Int} {n : Nat} (he : e = j + n) (hf : ∀ k : Nat, k < n → 97 ≤ b (j + k) ∧ b (j + k) ≤ 122) : wEq (sTxt 204) b j e ↔ hs (fun k => b (j + k)) (min n 7) = 408612 := by
  rw [hs_w4 (fun k => b (j + k)) hf]
  have hl : (sTxt 204).length = 4 := rfl
  constructor
  · rintro ⟨a, c⟩
    refine ⟨by omega, ?_, ?_, ?_, ?_⟩
    · exact (c 0 (by omega)).symm
    · exact (c 1 (by omega)).symm
    · exact (c 2 (by omega)).symm
    · exact (c 3 (by omega)).symm
  · rintro ⟨a, q0, q1, q2, q3⟩
    refine ⟨by omega, fun i hi => ?_⟩
    rw [hl] at hi
    rcases (by omega : i = 0 ∨ i = 1 ∨ i = 2 ∨ i = 3) with rfl | rfl | rfl | rfl
    · exact q0.symm
    · exact q1.symm
    · exact q2.symm
    · exact q3.symm
def wOf (y : Int) : Int := if y = 86282469 then 0 else if y = 147182 then 1 else if y = 3409198 then 2 else if y = 15813 then 3 else if y = 408612 then 4 else -1
theorem wOf_wdI {b : Int → Int} {j e : Int} {n : Nat} (he : e = j + n) (hf : ∀ k : Nat, k < n → 97 ≤ b (j + k) ∧ b (j + k) ≤ 122) : wOf (hs (fun k => b (j + k)) (min n 7)) = wdI b j e := by
  have w0 := wEq_w0 he hf
  have w1 := wEq_w1 he hf
  have w2 := wEq_w2 he hf
  have w3 := wEq_w3 he hf
  have w4 := wEq_w4 he hf
  generalize hs (fun k => b (j + k)) (min n 7) = y at *
  unfold wOf wdI
  simp only [w0, w1, w2, w3, w4]
theorem lCmp_0 {a b : Int} : lCmp a b = 0 ↔ a = b := by
  have h1 := lCmp_lt a b
  have h2 := lCmp_gt a b
  constructor
  · intro h
    rw [h] at h1 h2
    have n1 : ¬ a < b := by rw [← h1]; omega
    have n2 : ¬ b < a := by rw [← h2]; omega
    omega
  · intro h
    have n1 : ¬ lCmp a b < 0 := by rw [h1]; omega
    have n2 : ¬ 0 < lCmp a b := by rw [h2]; omega
    omega
theorem m_wordOf (g : Hp) (y : Int) : EV 8 qX12_wordOf 0 [vL y, vU] [] g = some (some (vI (wOf y)), g) := by
  unfold wOf
  rw [bX12_wordOf_0]
  by_cases c0 : y = 86282469
  · rw [if_pos (lCmp_0.mpr c0), if_pos c0, bX12_wordOf_8, bX12_wordOf_61]
  rw [if_neg (fun z => c0 (lCmp_0.mp z)), if_neg c0, bX12_wordOf_12]
  by_cases c1 : y = 147182
  · rw [if_pos (lCmp_0.mpr c1), if_pos c1, bX12_wordOf_20, bX12_wordOf_61]
  rw [if_neg (fun z => c1 (lCmp_0.mp z)), if_neg c1, bX12_wordOf_24]
  by_cases c2 : y = 3409198
  · rw [if_pos (lCmp_0.mpr c2), if_pos c2, bX12_wordOf_32, bX12_wordOf_61]
  rw [if_neg (fun z => c2 (lCmp_0.mp z)), if_neg c2, bX12_wordOf_36]
  by_cases c3 : y = 15813
  · rw [if_pos (lCmp_0.mpr c3), if_pos c3, bX12_wordOf_44, bX12_wordOf_61]
  rw [if_neg (fun z => c3 (lCmp_0.mp z)), if_neg c3, bX12_wordOf_48]
  by_cases c4 : y = 408612
  · rw [if_pos (lCmp_0.mpr c4), if_pos c4, bX12_wordOf_56, bX12_wordOf_61]
  rw [if_neg (fun z => c4 (lCmp_0.mp z)), if_neg c4, bX12_wordOf_60, bX12_wordOf_61]
theorem m_isEnd : ∀ (m : Nat) (g : Hp), g 86 3 ≤ 200 → 0 ≤ g 86 16 → g 86 16 + m = g 86 3 → EV 8 qX12_isEnd 0 [vR 86] [] g = some (some (vI (b01 (sp (g 89) (g 86 3) (g 86 16) = g 86 3))), up g 86 16 (sp (g 89) (g 86 3) (g 86 16))) := by
  have fin : ∀ g : Hp, EV 8 qX12_isEnd 38 [vR 86] [] g = some (some (vI (b01 (g 86 16 = g 86 3))), g) := fun g => by
    rw [bX12_isEnd_38]
    by_cases c : g 86 16 = g 86 3
    · rw [if_pos c, bX12_isEnd_49, bX12_isEnd_54 _ _ (by omega), b01_yes c]
    · rw [if_neg c, bX12_isEnd_53, bX12_isEnd_54 _ _ (by omega), b01_no c]
  intro m
  induction m with
  | zero =>
    intro g hL h0 hm
    rw [bX12_isEnd_0, if_pos (by omega), fin, sp_no (fun z => by have := z.1; omega), up_id rfl]
  | succ m ih =>
    intro g hL h0 hm
    rw [bX12_isEnd_0, if_neg (by omega), bX12_isEnd_11 _ (by omega)]
    by_cases c : g 89 (g 86 16) = 32
    · have e3 : up g 86 16 (g 86 16 + 1) 86 3 = g 86 3 := by rw [up_nei (by omega)]
      have e16 : up g 86 16 (g 86 16 + 1) 86 16 = g 86 16 + 1 := up_eq ..
      have e89 : up g 86 16 (g 86 16 + 1) 89 = g 89 := by funext i; rw [up_ne (by omega)]
      rw [if_pos c, bX12_isEnd_25 _ (by omega), ih _ (by omega) (by omega) (by omega), e3, e16, e89, up_up, sp_yes (show isS (g 89) (g 86 3) (g 86 16) from ⟨by omega, c⟩)]
    · rw [if_neg c, fin, sp_no (fun z => c z.2), up_id rfl]
theorem m_num_it {g : Hp} (hL : g 86 3 ≤ 200) (h0 : 0 ≤ g 86 16) (hd : isD (g 89) (g 86 3) (g 86 16)) (x1 x2 : Int) (h1 : 0 ≤ x1 ∧ x1 ≤ 200) (h2 : 0 ≤ x2 ∧ x2 < 1000) : EV 9 qX12_takeNumber 24 [vR 86, vI x1, vI x2] [] g = EV 9 qX12_takeNumber 24 [vR 86, vI x1, vI (if 2 ≤ g 86 16 - x1 then x2 else 10 * x2 + g 89 (g 86 16) - 48)] [] (up g 86 16 (g 86 16 + 1)) := by
  have d1 := hd.1
  have d2 := hd.2
  rw [bX12_takeNumber_24, if_neg (by omega), bX12_takeNumber_35 _ _ _ (by omega), e_in, bnd_some]
  show EV 9 qX12_takeNumber 54 _ [vI _] _ = _
  rw [bX12_takeNumber_54, if_neg (b01_pos d2), bX12_takeNumber_57 _ _ _ (by omega)]
  by_cases c : 2 ≤ g 86 16 - x1
  · rw [if_pos c, if_pos c, bX12_takeNumber_87, bX12_takeNumber_88 _ _ _ _ (by omega)]
  · rw [if_neg c, if_neg c, bX12_takeNumber_67 _ _ _ (by omega) (by omega) (by omega) (by omega), bX12_takeNumber_88 _ _ _ _ (by omega)]
theorem m_num_end {g : Hp} (hL : g 86 3 ≤ 200) (h0 : 0 ≤ g 86 16) (hd : ¬ isD (g 89) (g 86 3) (g 86 16)) (x1 x2 : Int) : EV 9 qX12_takeNumber 24 [vR 86, vI x1, vI x2] [] g = EV 9 qX12_takeNumber 102 [vR 86, vI x1, vI x2] [] g := by
  rw [bX12_takeNumber_24]
  by_cases c : g 86 3 ≤ g 86 16
  · rw [if_pos c]
  · rw [if_neg c, bX12_takeNumber_35 _ _ _ (by omega), e_in, bnd_some]
    show EV 9 qX12_takeNumber 54 _ [vI _] _ = _
    rw [bX12_takeNumber_54, if_pos (b01_neg (fun z => hd ⟨by omega, z⟩))]
theorem m_num_tail (x1 x2 : Int) (h1 : 0 ≤ x1 ∧ x1 ≤ 200) (h2 : 0 ≤ x2 ∧ x2 < 1000) : ∀ (m : Nat) (g : Hp), g 86 3 ≤ 200 → 0 ≤ g 86 16 → g 86 16 + m = g 86 3 → 2 ≤ g 86 16 - x1 → ∃ e, (g 86 16 ≤ e ∧ e ≤ g 86 3) ∧ (isD (g 89) (g 86 3) (g 86 16) → g 86 16 + 1 ≤ e) ∧ EV 9 qX12_takeNumber 24 [vR 86, vI x1, vI x2] [] g = EV 9 qX12_takeNumber 102 [vR 86, vI x1, vI x2] [] (up g 86 16 e) := by
  intro m
  induction m with
  | zero =>
    intro g hL h0 hm h7
    have nd : ¬ isD (g 89) (g 86 3) (g 86 16) := fun z => by have := z.1; omega
    exact ⟨g 86 16, by omega, fun z => absurd z nd, by rw [m_num_end hL h0 nd, up_id rfl]⟩
  | succ m ih =>
    intro g hL h0 hm h7
    by_cases c : isD (g 89) (g 86 3) (g 86 16)
    · have e3 : up g 86 16 (g 86 16 + 1) 86 3 = g 86 3 := by rw [up_nei (by omega)]
      have e16 : up g 86 16 (g 86 16 + 1) 86 16 = g 86 16 + 1 := up_eq ..
      obtain ⟨e, q1, q2, q3⟩ := ih (up g 86 16 (g 86 16 + 1)) (by omega) (by omega) (by omega) (by omega)
      rw [e3, e16] at q1
      rw [up_up] at q3
      exact ⟨e, by omega, fun _ => by omega, by rw [m_num_it hL h0 c x1 x2 h1 h2, if_pos h7, q3]⟩
    · exact ⟨g 86 16, by omega, fun z => absurd z c, by rw [m_num_end hL h0 c, up_id rfl]⟩
abbrev frQ7 (g g' : Hp) : Prop := (∀ a : Nat, a ≠ 86 → g' a = g a) ∧ ∀ i : Int, i ≠ 16 → i ≠ 17 → g' 86 i = g 86 i
theorem m_takeNumber {g : Hp} {b : Int → Int} {L e : Int} (hL : L ≤ 200) (hb : ∀ k, 0 ≤ k → k < L → 0 ≤ b k ∧ b k ≤ 255) (h89 : g 89 = b) (h3 : g 86 3 = L) (h16 : g 86 16 = e) (he : 0 ≤ e ∧ e ≤ L) : ∃ (v : Int) (g' : Hp), EV 9 qX12_takeNumber 0 [vR 86, vU, vU] [] g = some (some (vI v), g') ∧ frQ7 g g' ∧ (0 ≤ g' 86 16 ∧ g' 86 16 ≤ L) ∧ (((tok b L (sp b L e)).1 = 2 ∧ v = (tok b L (sp b L e)).2.1 ∧ g' 86 16 = (tok b L (sp b L e)).2.2 ∧ g' 86 17 = g 86 17) ∨ ((tok b L (sp b L e)).1 ≠ 2 ∧ g' 86 17 = sp b L e)) := by
  obtain ⟨s1, s2⟩ := sp_all (b := b) he.2
  have hE := m_isEnd (L - e).toNat g (by omega) (by omega) (by omega)
  rw [h89, h3, h16] at hE
  generalize hj : sp b L e = j at *
  generalize hg1 : up g 86 16 j = g1 at *
  have a3 : g1 86 3 = L := by subst hg1; rw [up_nei (by omega), h3]
  have a16 : g1 86 16 = j := by subst hg1; rw [up_eq]
  have a17 : g1 86 17 = g 86 17 := by subst hg1; rw [up_nei (by omega)]
  have ao : ∀ a : Nat, a ≠ 86 → g1 a = g a := fun a ha => by subst hg1; funext i; rw [up_ne ha]
  have ai : ∀ i : Int, i ≠ 16 → g1 86 i = g 86 i := fun i hi => by subst hg1; rw [up_nei hi]
  have a89 : g1 89 = b := by rw [ao 89 (by omega), h89]
  rw [bX12_takeNumber_0, hE, bnd_some]
  show ∃ v g', EV 9 qX12_takeNumber 4 _ [vI _] _ = _ ∧ _
  rw [bX12_takeNumber_4]
  by_cases c0 : j = L
  · have ht : tok b L j = (0, 0, j) := by unfold tok; rw [if_pos c0]
    rw [if_neg (b01_pos c0), bX12_takeNumber_7, a3]
    refine ⟨-1, up g1 86 17 L, rfl, ⟨fun a ha => by rw [← ao a ha]; funext i; rw [up_ne ha], fun i x1 x2 => by rw [up_nei x2, ai i x1]⟩, by rw [up_nei (by omega)]; omega, Or.inr ⟨?_, by rw [up_eq, c0]⟩⟩
    rw [ht]
    show (0 : Int) ≠ 2
    omega
  · rw [if_pos (b01_neg c0), bX12_takeNumber_17, a16]
    by_cases d0 : isD b L j
    · have d01 := d0.1
      have d02 := d0.2
      have nC : ¬ isC b L j := fun z => by have := z.2; omega
      have i1 := m_num_it (g := g1) (by omega) (by omega) (by rw [a89, a3, a16]; exact d0) j 0 (by omega) (by omega)
      rw [a16, a89, if_neg (by omega)] at i1
      rw [i1]
      generalize hg2 : up g1 86 16 (j + 1) = g2
      have b3 : g2 86 3 = L := by subst hg2; rw [up_nei (by omega), a3]
      have b16 : g2 86 16 = j + 1 := by subst hg2; rw [up_eq]
      have b17 : g2 86 17 = g 86 17 := by subst hg2; rw [up_nei (by omega), a17]
      have bo : ∀ a : Nat, a ≠ 86 → g2 a = g a := fun a ha => by subst hg2; funext i; rw [up_ne ha, ao a ha]
      have bi : ∀ i : Int, i ≠ 16 → g2 86 i = g 86 i := fun i hi => by subst hg2; rw [up_nei hi, ai i hi]
      have b89 : g2 89 = b := by rw [bo 89 (by omega), h89]
      by_cases d1 : isD b L (j + 1)
      · have d11 := d1.1
        have d12 := d1.2
        have i2 := m_num_it (g := g2) (by omega) (by omega) (by rw [b89, b3, b16]; exact d1) j (10 * 0 + b j - 48) (by omega) (by omega)
        rw [b16, b89, if_neg (by omega), show 10 * (10 * 0 + b j - 48) + b (j + 1) - 48 = 10 * (b j - 48) + b (j + 1) - 48 by omega] at i2
        rw [i2]
        generalize hg3 : up g2 86 16 (j + 1 + 1) = g3
        have f3 : g3 86 3 = L := by subst hg3; rw [up_nei (by omega), b3]
        have f16 : g3 86 16 = j + 2 := by subst hg3; rw [up_eq]; omega
        have f17 : g3 86 17 = g 86 17 := by subst hg3; rw [up_nei (by omega), b17]
        have fo : ∀ a : Nat, a ≠ 86 → g3 a = g a := fun a ha => by subst hg3; funext i; rw [up_ne ha, bo a ha]
        have fi : ∀ i : Int, i ≠ 16 → g3 86 i = g 86 i := fun i hi => by subst hg3; rw [up_nei hi, bi i hi]
        have f89 : g3 89 = b := by rw [fo 89 (by omega), h89]
        by_cases d2 : isD b L (j + 2)
        · have d21 := d2.1
          obtain ⟨e', q1, q2, q3⟩ := m_num_tail j (10 * (b j - 48) + b (j + 1) - 48) (by omega) (by omega) (L - (j + 2)).toNat g3 (by omega) (by omega) (by omega) (by omega)
          have q2' := q2 (by rw [f89, f3, f16]; exact d2)
          rw [f3, f16] at q1
          have ht : tok b L j = (4, 0, j + 3) := by unfold tok; rw [if_neg c0, if_neg nC, if_pos d0, if_pos d1, if_pos d2]
          have w16 : up g3 86 16 e' 86 16 = e' := up_eq ..
          rw [q3, bX12_takeNumber_102, w16, if_neg (by omega), bX12_takeNumber_111 _ _ _ (by rw [w16]; omega), w16, if_neg (by omega), bX12_takeNumber_121, bX12_takeNumber_129]
          refine ⟨_, _, rfl, ⟨fun a ha => by rw [← fo a ha]; funext i; rw [up_ne ha, up_ne ha], fun i x1 x2 => by rw [up_nei x2, up_nei x1, fi i x1]⟩, by rw [up_nei (by omega), up_eq]; omega, Or.inr ⟨?_, by rw [up_eq]⟩⟩
          rw [ht]
          show (4 : Int) ≠ 2
          omega
        · have ht : tok b L j = (2, 10 * (b j - 48) + b (j + 1) - 48, j + 2) := by unfold tok; rw [if_neg c0, if_neg nC, if_pos d0, if_pos d1, if_neg d2]
          rw [m_num_end (by omega) (by omega) (by rw [f89, f3, f16]; exact d2), bX12_takeNumber_102, f16, if_neg (by omega), bX12_takeNumber_111 _ _ _ (by omega), f16, if_pos (by omega), bX12_takeNumber_125, bX12_takeNumber_129]
          refine ⟨_, _, rfl, ⟨fun a ha => by rw [← fo a ha]; funext i; rw [up_ne ha], fun i x1 x2 => by rw [up_nei x2, fi i x1]⟩, by rw [up_nei (by omega), f16]; omega, Or.inl ⟨by rw [ht], by rw [ht], by rw [up_nei (by omega), f16, ht], by rw [up_eq, f17]⟩⟩
      · have ht : tok b L j = (2, b j - 48, j + 1) := by unfold tok; rw [if_neg c0, if_neg nC, if_pos d0, if_neg d1]
        rw [m_num_end (by omega) (by omega) (by rw [b89, b3, b16]; exact d1), bX12_takeNumber_102, b16, if_neg (by omega), bX12_takeNumber_111 _ _ _ (by omega), b16, if_pos (by omega), bX12_takeNumber_125, bX12_takeNumber_129]
        refine ⟨_, _, rfl, ⟨fun a ha => by rw [← bo a ha]; funext i; rw [up_ne ha], fun i x1 x2 => by rw [up_nei x2, bi i x1]⟩, by rw [up_nei (by omega), b16]; omega, Or.inl ⟨by rw [ht], by rw [ht]; show 10 * 0 + b j - 48 = b j - 48; omega, by rw [up_nei (by omega), b16, ht], by rw [up_eq, b17]⟩⟩
    · have ht : (tok b L j).1 ≠ 2 := by
        unfold tok
        rw [if_neg c0]
        by_cases c1 : isC b L j
        · rw [if_pos c1]
          show (if _ then (4 : Int) else 1) ≠ 2
          split <;> omega
        · rw [if_neg c1, if_neg d0]
          show (if _ then (3 : Int) else 4) ≠ 2
          split <;> omega
      rw [m_num_end (by omega) (by omega) (by rw [a89, a3, a16]; exact d0), bX12_takeNumber_102, a16, if_pos rfl, bX12_takeNumber_121, bX12_takeNumber_129]
      exact ⟨_, _, rfl, ⟨fun a ha => by rw [← ao a ha]; funext i; rw [up_ne ha], fun i x1 x2 => by rw [up_nei x2, ai i x1]⟩, by rw [up_nei (by omega), a16]; omega, Or.inr ⟨ht, by rw [up_eq]⟩⟩
