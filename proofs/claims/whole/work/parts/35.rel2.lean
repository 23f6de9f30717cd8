/-! the tellers keep the relation -/
def fu (φ : Int → Int) (i v : Int) : Int → Int := fun k => if k = i then v else φ k
theorem fu_eq {φ : Int → Int} {i v : Int} : fu φ i v i = v := by simp [fu]
theorem fu_ne {φ : Int → Int} {i v k : Int} (h : k ≠ i) : fu φ i v k = φ k := by simp [fu, h]
theorem rg_up (g : Hp) (r j v : Int) : rg (up g 87 j v) r = fu (rg g r) (j - r) v := by
  funext k
  unfold rg up fu
  by_cases h : k = j - r
  · rw [if_pos ⟨rfl, by omega⟩, if_pos h]
  · rw [if_neg (fun z => h (by omega)), if_neg h]
theorem rg_upo (g : Hp) {a : Nat} (r j v : Int) (ha : 87 ≠ a) : rg (up g a j v) r = rg g r := by
  funext k
  unfold rg
  rw [up_ne ha]
theorem or_bit : ∀ n : Nat, n < 5 → ∀ x : Nat, x < 2 ^ n → bOr (x : Int) (bShl 1 (n : Int)) = ((x + 2 ^ n : Nat) : Int) := by decide +kernel
theorem or_bitI {n x : Int} (hn : 0 ≤ n ∧ n < 5) (hx : 0 ≤ x ∧ x < pw2 n) : bOr x (bShl 1 n) = x + pw2 n := by
  obtain ⟨m, rfl⟩ := Int.eq_ofNat_of_zero_le hn.1
  obtain ⟨y, rfl⟩ := Int.eq_ofNat_of_zero_le hx.1
  have hy : y < 2 ^ m := by
    have := hx.2
    unfold pw2 at this
    simp at this
    exact_mod_cast this
  rw [or_bit m (by omega) y hy]
  unfold pw2
  simp
theorem or_0 : ∀ x : Nat, x < 32 → bOr (x : Int) 0 = (x : Int) := by decide +kernel
theorem pw2_succ {n : Int} (h : 0 ≤ n) : pw2 (n + 1) = 2 * pw2 n := by
  unfold pw2
  rw [show (n + 1).toNat = n.toNat + 1 by omega, Int.pow_succ]
  omega
theorem pw2_pos {n : Int} : 0 < pw2 n := by
  unfold pw2
  exact Int.pow_pos (by decide)
theorem pw2_le {n : Int} (h : 0 ≤ n ∧ n ≤ 5) : pw2 n ≤ 32 := by
  rcases (by omega : n = 0 ∨ n = 1 ∨ n = 2 ∨ n = 3 ∨ n = 4 ∨ n = 5) with rfl | rfl | rfl | rfl | rfl | rfl <;> decide
theorem or_0I {x : Int} (h : 0 ≤ x ∧ x < 32) : bOr x 0 = x := by
  obtain ⟨y, rfl⟩ := Int.eq_ofNat_of_zero_le h.1
  exact or_0 y (by omega)
def fBr (φ : Int → Int) (a b kd dn : Int) : Int → Int := fu (fu (fu (fu (fu (fu (fu φ (1 + φ 0) a) (6 + φ 0) b) (11 + φ 0) kd) (16 + φ 0) 0) 21 (φ 21 + if dn = 0 then 0 else pw2 (φ 0))) 0 (φ 0 + 1)) 36 0
theorem rg_at (g : Hp) (r k : Int) : rg g r k = g 87 (r + k) := rfl
theorem rg_0 (g : Hp) (r : Int) : rg g r 0 = g 87 r := by rw [rg_at, Int.add_zero]
theorem lyBr {φ : Int → Int} (hI : FI φ) (h5 : φ 0 ≠ 5) (dn : Int) : bOr (φ 21) (if dn = 0 then 0 else bShl 1 (φ 0)) = φ 21 + if dn = 0 then 0 else pw2 (φ 0) := by
  obtain ⟨h0, -, h21, -⟩ := hI
  by_cases hd : dn = 0
  · rw [if_pos hd, if_pos hd, Int.add_zero]
    have := pw2_le h0
    exact or_0I (by omega)
  · rw [if_neg hd, if_neg hd, or_bitI (by omega) h21]
theorem rg_hBr {g : Hp} {r a b kd dn : Int} (hI : FI (rg g r)) (h5 : g 87 r ≠ 5) : rg (hBr g r a b kd dn) r = fBr (rg g r) a b kd dn := by
  have hl := lyBr hI (by rw [rg_0]; exact h5) dn
  rw [rg_0, rg_at] at hl
  unfold hBr fBr
  rw [hl, rg_up, rg_up, rg_up, rg_up, rg_up, rg_up, rg_up, rg_0, rg_at g r 21]
  rw [show r + 1 + g 87 r - r = 1 + g 87 r by omega, show r + 6 + g 87 r - r = 6 + g 87 r by omega, show r + 11 + g 87 r - r = 11 + g 87 r by omega, show r + 16 + g 87 r - r = 16 + g 87 r by omega, show r + 21 - r = 21 by omega, show r - r = 0 by omega, show r + 36 - r = 36 by omega]
theorem fBr_hi {φ : Int → Int} {a b kd dn j : Int} (hn : 0 ≤ φ 0 ∧ φ 0 < 5) (h : 22 ≤ j) (h36 : j ≠ 36) : fBr φ a b kd dn j = φ j := by
  unfold fBr
  rw [fu_ne h36, fu_ne (by omega), fu_ne (by omega), fu_ne (by omega), fu_ne (by omega), fu_ne (by omega), fu_ne (by omega)]
theorem fBr_36 {φ : Int → Int} {a b kd dn : Int} : fBr φ a b kd dn 36 = 0 := fu_eq
theorem fBr_0 {φ : Int → Int} {a b kd dn : Int} : fBr φ a b kd dn 0 = φ 0 + 1 := by
  unfold fBr
  rw [fu_ne (by omega), fu_eq]
theorem fBr_21 {φ : Int → Int} {a b kd dn : Int} : fBr φ a b kd dn 21 = φ 21 + if dn = 0 then 0 else pw2 (φ 0) := by
  unfold fBr
  rw [fu_ne (by omega), fu_ne (by omega), fu_eq]
theorem fu_if (φ : Int → Int) (i v k : Int) : fu φ i v k = if k = i then v else φ k := rfl
theorem fBr_A {φ : Int → Int} {a b kd dn k : Int} (hn : 0 ≤ φ 0 ∧ φ 0 < 5) (hk : 0 ≤ k ∧ k < 5) : fBr φ a b kd dn (1 + k) = if k = φ 0 then a else φ (1 + k) := by
  unfold fBr
  rw [fu_ne (by omega), fu_ne (by omega), fu_ne (by omega), fu_ne (by omega), fu_ne (by omega), fu_ne (by omega), fu_if]
  by_cases h : k = φ 0
  · rw [if_pos h, if_pos (by omega)]
  · rw [if_neg h, if_neg (by omega)]
theorem fBr_B {φ : Int → Int} {a b kd dn k : Int} (hn : 0 ≤ φ 0 ∧ φ 0 < 5) (hk : 0 ≤ k ∧ k < 5) : fBr φ a b kd dn (6 + k) = if k = φ 0 then b else φ (6 + k) := by
  unfold fBr
  rw [fu_ne (by omega), fu_ne (by omega), fu_ne (by omega), fu_ne (by omega), fu_ne (by omega), fu_if]
  by_cases h : k = φ 0
  · rw [if_pos h, if_pos (by omega)]
  · rw [if_neg h, if_neg (by omega), fu_ne (by omega)]
theorem fBr_K {φ : Int → Int} {a b kd dn k : Int} (hn : 0 ≤ φ 0 ∧ φ 0 < 5) (hk : 0 ≤ k ∧ k < 5) : fBr φ a b kd dn (11 + k) = if k = φ 0 then kd else φ (11 + k) := by
  unfold fBr
  rw [fu_ne (by omega), fu_ne (by omega), fu_ne (by omega), fu_ne (by omega), fu_if]
  by_cases h : k = φ 0
  · rw [if_pos h, if_pos (by omega)]
  · rw [if_neg h, if_neg (by omega), fu_ne (by omega), fu_ne (by omega)]
theorem fBr_S {φ : Int → Int} {a b kd dn k : Int} (hn : 0 ≤ φ 0 ∧ φ 0 < 5) (hk : 0 ≤ k ∧ k < 5) : fBr φ a b kd dn (16 + k) = if k = φ 0 then 0 else φ (16 + k) := by
  unfold fBr
  rw [fu_ne (by omega), fu_ne (by omega), fu_ne (by omega), fu_if]
  by_cases h : k = φ 0
  · rw [if_pos h, if_pos (by omega)]
  · rw [if_neg h, if_neg (by omega), fu_ne (by omega), fu_ne (by omega), fu_ne (by omega)]
theorem FI_fBr {φ : Int → Int} {a b kd dn : Int} (hI : FI φ) (h5 : φ 0 ≠ 5) (hok : okBr a b kd) : FI (fBr φ a b kd dn) := by
  obtain ⟨h0, hb, hl, hc, hch, hch2, hp, hpp, hs, hss⟩ := hI
  obtain ⟨o1, o2, o3, o4⟩ := hok
  have hn : 0 ≤ φ 0 ∧ φ 0 < 5 := by omega
  have hpos := pw2_pos (n := φ 0)
  unfold FI
  rw [fBr_0, fBr_21, fBr_36, fBr_hi hn (by omega) (by omega), fBr_hi (j := 29) hn (by omega) (by omega), fBr_hi (j := 23) hn (by omega) (by omega), fBr_hi (j := 24) hn (by omega) (by omega), fBr_hi (j := 25) hn (by omega) (by omega), fBr_hi (j := 26) hn (by omega) (by omega), pw2_succ h0.1]
  refine ⟨by omega, fun k k0 k1 => ?_, ?_, hc, fun c c0 c1 => ?_, hch2, hp, fun p p0 p1 => ?_, by omega, fun s s0 s1 => by omega⟩
  · rw [fBr_A hn (by omega), fBr_B hn (by omega), fBr_K hn (by omega), fBr_S hn (by omega)]
    by_cases hk : k = φ 0
    · simp only [if_pos hk]
      omega
    · simp only [if_neg hk]
      exact hb k k0 (by omega)
  · by_cases hd : dn = 0
    · simp only [if_pos hd]
      omega
    · simp only [if_neg hd]
      omega
  · rw [fBr_hi hn (by omega) (by omega), fBr_hi hn (by omega) (by omega), fBr_hi hn (by omega) (by omega)]
    have := hch c c0 c1
    omega
  · rw [fBr_hi hn (by omega) (by omega), fBr_hi hn (by omega) (by omega)]
    have := hpp p p0 p1
    omega
