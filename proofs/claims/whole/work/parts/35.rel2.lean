/-! the tellers keep the relation -/
def fu (φ : Int → Int) (i v : Int) : Int → Int := fun k => if k = i then v else φ k
theorem fu_eq {φ : Int → Int} {i v : Int} : fu φ i v i = v := by simp [fu]
theorem fu_ne {φ : Int → Int} {i v k : Int} (h : k ≠ i) : fu φ i v k = φ k := by simp [fu, h]
theorem rg_up (g : Hp) (r j v : Int) : rg (up g 87 j v) r = fu (rg g r) (j - r) v := by
  funext k
  unfold rg up fu
  by_cases h : k = j - r
  · rw [if_pos ⟨rfl, by omega⟩, if_pos h]
  · rw [if_neg (fun z => h (by omega)), if_neg h]
theorem rg_upo (g : Hp) {a : Nat} (r j v : Int) (ha : 87 ≠ a) : rg (up g a j v) r = rg g r := by
  funext k
  unfold rg
  rw [up_ne ha]
theorem or_bit : ∀ n : Nat, n < 5 → ∀ x : Nat, x < 2 ^ n → bOr (x : Int) (bShl 1 (n : Int)) = ((x + 2 ^ n : Nat) : Int) := by decide +kernel
theorem or_bitI {n x : Int} (hn : 0 ≤ n ∧ n < 5) (hx : 0 ≤ x ∧ x < pw2 n) : bOr x (bShl 1 n) = x + pw2 n := by
  obtain ⟨m, rfl⟩ := Int.eq_ofNat_of_zero_le hn.1
  obtain ⟨y, rfl⟩ := Int.eq_ofNat_of_zero_le hx.1
  have hy : y < 2 ^ m := by
    have := hx.2
    unfold pw2 at this
    simp at this
    exact_mod_cast this
  rw [or_bit m (by omega) y hy]
  unfold pw2
  simp
theorem or_0 : ∀ x : Nat, x < 32 → bOr (x : Int) 0 = (x : Int) := by decide +kernel
theorem pw2_succ {n : Int} (h : 0 ≤ n) : pw2 (n + 1) = 2 * pw2 n := by
  unfold pw2
  rw [show (n + 1).toNat = n.toNat + 1 by omega, Int.pow_succ]
  omega
theorem pw2_pos {n : Int} : 0 < pw2 n := by
  unfold pw2
  exact Int.pow_pos (by decide)
theorem pw2_le {n : Int} (h : 0 ≤ n ∧ n ≤ 5) : pw2 n ≤ 32 := by
  rcases (by omega : n = 0 ∨ n = 1 ∨ n = 2 ∨ n = 3 ∨ n = 4 ∨ n = 5) with rfl | rfl | rfl | rfl | rfl | rfl <;> decide
theorem or_0I {x : Int} (h : 0 ≤ x ∧ x < 32) : bOr x 0 = x := by
  obtain ⟨y, rfl⟩ := Int.eq_ofNat_of_zero_le h.1
  exact or_0 y (by omega)
def fBr (φ : Int → Int) (a b kd dn : Int) : Int → Int := fu (fu (fu (fu (fu (fu (fu φ (1 + φ 0) a) (6 + φ 0) b) (11 + φ 0) kd) (16 + φ 0) 0) 21 (φ 21 + if dn = 0 then 0 else pw2 (φ 0))) 0 (φ 0 + 1)) 36 0
theorem rg_at (g : Hp) (r k : Int) : rg g r k = g 87 (r + k) := rfl
theorem rg_0 (g : Hp) (r : Int) : rg g r 0 = g 87 r := by rw [rg_at, Int.add_zero]
theorem lyBr {φ : Int → Int} (hI : FI φ) (h5 : φ 0 ≠ 5) (dn : Int) : bOr (φ 21) (if dn = 0 then 0 else bShl 1 (φ 0)) = φ 21 + if dn = 0 then 0 else pw2 (φ 0) := by
  obtain ⟨h0, -, h21, -⟩ := hI
  by_cases hd : dn = 0
  · rw [if_pos hd, if_pos hd, Int.add_zero]
    have := pw2_le h0
    exact or_0I (by omega)
  · rw [if_neg hd, if_neg hd, or_bitI (by omega) h21]
theorem rg_hBr {g : Hp} {r a b kd dn : Int} (hI : FI (rg g r)) (h5 : g 87 r ≠ 5) : rg (hBr g r a b kd dn) r = fBr (rg g r) a b kd dn := by
  have hl := lyBr hI (by rw [rg_0]; exact h5) dn
  rw [rg_0, rg_at] at hl
  unfold hBr fBr
  rw [hl, rg_up, rg_up, rg_up, rg_up, rg_up, rg_up, rg_up, rg_0, rg_at g r 21]
  rw [show r + 1 + g 87 r - r = 1 + g 87 r by omega, show r + 6 + g 87 r - r = 6 + g 87 r by omega, show r + 11 + g 87 r - r = 11 + g 87 r by omega, show r + 16 + g 87 r - r = 16 + g 87 r by omega, show r + 21 - r = 21 by omega, show r - r = 0 by omega, show r + 36 - r = 36 by omega]
