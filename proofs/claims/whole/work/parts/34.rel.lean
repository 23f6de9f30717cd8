/-! what a fort is, in the reference's layout φ (a region of w): 0 bridges, 1+k A, 6+k B, 11+k kind, 16+k ballast, 21 lying, 22 chains, 23+c one, 25+c other, 27+c rust, 29 people, 30+p pounds, 33+p place, 36 steps, 37+4s lying, 38+4s+p place -/
def pw2 (n : Int) : Int := 2 ^ n.toNat
theorem pw2_0 : pw2 0 = 1 := rfl
theorem pw2_1 : pw2 1 = 2 := rfl
theorem pw2_2 : pw2 2 = 4 := rfl
theorem pw2_3 : pw2 3 = 8 := rfl
theorem pw2_4 : pw2 4 = 16 := rfl
theorem pw2_5 : pw2 5 = 32 := rfl
def FI (φ : Int → Int) : Prop :=
  (0 ≤ φ 0 ∧ φ 0 ≤ 5) ∧ (∀ k, 0 ≤ k → k < φ 0 → (0 ≤ φ (1 + k) ∧ φ (1 + k) ≤ 4) ∧ (0 ≤ φ (6 + k) ∧ φ (6 + k) ≤ 4) ∧ (0 ≤ φ (11 + k) ∧ φ (11 + k) ≤ 5) ∧ (0 ≤ φ (16 + k) ∧ φ (16 + k) ≤ 20)) ∧
  (0 ≤ φ 21 ∧ φ 21 < pw2 (φ 0)) ∧
  (0 ≤ φ 22 ∧ φ 22 ≤ 2) ∧ (∀ c, 0 ≤ c → c < φ 22 → (0 ≤ φ (23 + c) ∧ φ (23 + c) < φ 0) ∧ (0 ≤ φ (25 + c) ∧ φ (25 + c) < φ 0) ∧ φ (23 + c) ≠ φ (25 + c) ∧ (0 ≤ φ (27 + c) ∧ φ (27 + c) ≤ 9)) ∧
  (φ 22 = 2 → φ 23 ≠ φ 24 ∧ φ 23 ≠ φ 26 ∧ φ 25 ≠ φ 24 ∧ φ 25 ≠ φ 26) ∧
  (0 ≤ φ 29 ∧ φ 29 ≤ 3) ∧ (∀ p, 0 ≤ p → p < φ 29 → (1 ≤ φ (30 + p) ∧ φ (30 + p) ≤ 9) ∧ (0 ≤ φ (33 + p) ∧ φ (33 + p) < 5 + φ 0)) ∧
  (0 ≤ φ 36 ∧ φ 36 ≤ 16) ∧ (∀ s, 0 ≤ s → s < φ 36 → (0 ≤ φ (37 + 4 * s) ∧ φ (37 + 4 * s) < pw2 (φ 0)) ∧ ∀ p, 0 ≤ p → p < φ 29 → 0 ≤ φ (38 + 4 * s + p) ∧ φ (38 + 4 * s + p) < 5 + φ 0)
/-- how all is, as the class packs it: the lying, then three places, a figure each -/
def pk3 (n ly a b c : Int) : Int := ((ly * 10 + (if 0 < n then a else 0)) * 10 + (if 1 < n then b else 0)) * 10 + (if 2 < n then c else 0)
/-- the Fort at f holds φ -/
def ClsF (g : Hp) (f : Nat) (φ : Int → Int) : Prop :=
  g f 1 = φ 0 ∧ (∀ k, 0 ≤ k → k < φ 0 → g (f + 8) k = φ (1 + k) ∧ g (f + 9) k = φ (6 + k) ∧ g (f + 10) k = φ (11 + k) ∧ g (f + 11) k = φ (16 + k)) ∧
  g f 6 = φ 21 ∧ g f 7 = φ 22 ∧ (∀ c, 0 ≤ c → c < φ 22 → g (f + 12) c = φ (23 + c) ∧ g (f + 13) c = φ (25 + c) ∧ g (f + 14) c = φ (27 + c)) ∧
  g f 11 = φ 29 ∧ (∀ p, 0 ≤ p → p < φ 29 → g (f + 15) p = φ (30 + p) ∧ g (f + 16) p = φ (33 + p)) ∧
  g (f + 17) 1 = φ 36 ∧ ∀ s, 0 ≤ s → s < φ 36 → g (f + 18) s = pk3 (φ 29) (φ (37 + 4 * s)) (φ (38 + 4 * s)) (φ (39 + 4 * s)) (φ (40 + 4 * s))
/-- nothing but the Fort at f was written -/
def sameBut (g g' : Hp) (f : Nat) : Prop := ∀ a : Nat, (a < f ∨ f + 18 < a) → g' a = g a
theorem ClsF.keep {g g' : Hp} {f : Nat} {φ : Int → Int} (h : ClsF g f φ) (hk : ∀ a : Nat, f ≤ a → a ≤ f + 18 → g' a = g a) : ClsF g' f φ := by
  unfold ClsF at *
  rw [hk f (by omega) (by omega), hk (f + 8) (by omega) (by omega), hk (f + 9) (by omega) (by omega), hk (f + 10) (by omega) (by omega), hk (f + 11) (by omega) (by omega), hk (f + 12) (by omega) (by omega), hk (f + 13) (by omega) (by omega), hk (f + 14) (by omega) (by omega), hk (f + 15) (by omega) (by omega), hk (f + 16) (by omega) (by omega), hk (f + 17) (by omega) (by omega), hk (f + 18) (by omega) (by omega)]
  exact h
theorem cTied_eq {g : Hp} {f : Nat} {φ : Int → Int} (h : ClsF g f φ) (b : Int) : cTied g f b = tied01 φ b := by
  obtain ⟨h0, hb, hl, hc, hch, hp, hpp, hs, hss⟩ := h
  unfold cTied tied01
  rw [hc]
  apply b_iff
  constructor
  · rintro (⟨a1, a2⟩ | ⟨a1, a2⟩)
    · have := hch 0 (by omega) (by omega)
      simp only [Int.add_zero] at this
      left
      exact ⟨a1, by omega⟩
    · have := hch 1 (by omega) (by omega)
      right
      refine ⟨a1, ?_⟩
      rw [this.1, this.2.1] at a2
      exact a2
  · rintro (⟨a1, a2⟩ | ⟨a1, a2⟩)
    · have := hch 0 (by omega) (by omega)
      simp only [Int.add_zero] at this
      left
      exact ⟨a1, by omega⟩
    · have := hch 1 (by omega) (by omega)
      right
      refine ⟨a1, ?_⟩
      rw [this.1, this.2.1]
      exact a2
