/-! how many bits: two ways of counting -/
def pcn : Nat → Nat → Nat
  | 0, _ => 0
  | m + 1, n => n % 2 + pcn m (n / 2)
theorem and_d2 (a b : Nat) : (a &&& b) / 2 = a / 2 &&& b / 2 := by
  apply Nat.eq_of_testBit_eq
  intro i
  rw [Nat.testBit_div_two, Nat.testBit_and, Nat.testBit_and, Nat.testBit_div_two, Nat.testBit_div_two]
theorem and_m2 (a b : Nat) : (a &&& b) % 2 = (a % 2) * (b % 2) := by
  have h : (a &&& b) % 2 = (a % 2) &&& (b % 2) := by
    have := Nat.and_mod_two_pow (a := a) (b := b) (n := 1)
    simpa using this
  rw [h]
  rcases Nat.mod_two_eq_zero_or_one a with x | x <;> rcases Nat.mod_two_eq_zero_or_one b with y | y <;> rw [x, y] <;> rfl
theorem pcn_0 : ∀ m : Nat, pcn m 0 = 0 := by
  intro m
  induction m with
  | zero => rfl
  | succ m ih => rw [pcn, ih]
theorem pcn_low : ∀ (m n : Nat), 0 < n → n < 2 ^ m → pcn m (n &&& (n - 1)) + 1 = pcn m n := by
  intro m
  induction m with
  | zero => intro n h0 h1; simp at h1; omega
  | succ m ih =>
    intro n h0 h1
    rw [pcn, pcn, and_d2, and_m2]
    rcases Nat.mod_two_eq_zero_or_one n with e | e
    · have hm := ih (n / 2) (by omega) (by rw [Nat.pow_succ] at h1; omega)
      rw [e, show (n - 1) / 2 = n / 2 - 1 by omega]
      omega
    · rw [show (n - 1) / 2 = n / 2 by omega, Nat.and_self, show (n - 1) % 2 = 0 by omega, e]
      omega
theorem and_cat {b m r s : Nat} (hb : b < 256) (hm : m < 256) : (b + 256 * r) &&& (m + 256 * s) = (b &&& m) + 256 * (r &&& s) := by
  have h1 : ∀ x y : Nat, x < 256 → x + 256 * y = 2 ^ 8 * y + x := fun x y _ => by omega
  have hbm : b &&& m < 2 ^ 8 := Nat.and_lt_two_pow b hm
  rw [h1 b r hb, h1 m s hm, h1 (b &&& m) (r &&& s) hbm]
  apply Nat.eq_of_testBit_eq
  intro i
  rw [Nat.testBit_and, Nat.testBit_two_pow_mul_add _ hb, Nat.testBit_two_pow_mul_add _ hm, Nat.testBit_two_pow_mul_add _ hbm]
  split
  · rw [Nat.testBit_and]
  · rw [Nat.testBit_and]
def P8 (b : Nat) : Nat := pcn 8 b
theorem sw1 : ∀ b : Nat, b < 256 → ∀ t : Nat, t < 2 → (b / 2 + 128 * t) &&& 85 = (b / 2) &&& 85 := by decide +kernel
theorem sw2 : ∀ b : Nat, b < 256 → ∀ t : Nat, t < 4 → (b / 4 + 64 * t) &&& 51 = (b / 4) &&& 51 := by decide +kernel
def q1 (b : Nat) : Nat := b - ((b / 2) &&& 85)
def q2 (b : Nat) : Nat := (q1 b &&& 51) + ((q1 b / 4) &&& 51)
theorem sw3 : ∀ b : Nat, b < 256 → ((b / 2) &&& 85) ≤ b ∧ q1 b < 256 ∧ q2 b ≤ 68 ∧ q2 b % 16 + q2 b / 16 ≤ 8 ∧ q2 b % 16 ≤ 4 ∧ ((q2 b + q2 b / 16) &&& 15) = P8 b ∧ P8 b ≤ 8 := by decide +kernel
theorem sw4 : ∀ b : Nat, b < 256 → ∀ t : Nat, t < 5 → ((q2 b + q2 b / 16 + 16 * t) &&& 15) = P8 b ∧ q2 b + q2 b / 16 + 16 * t < 256 := by decide +kernel
/-- the JDK's count, unsigned -/
def swar (n : Nat) : Nat :=
  let a1 := n - ((n / 2) &&& 1431655765)
  let a2 := (a1 &&& 858993459) + ((a1 / 4) &&& 858993459)
  let a3 := (a2 + a2 / 16) &&& 252645135
  let a4 := a3 + a3 / 256
  let a5 := a4 + a4 / 65536
  a5 &&& 63
def cat4 (a b c d : Nat) : Nat := a + 256 * (b + 256 * (c + 256 * d))
theorem and_cat4 {a b c d m : Nat} (ha : a < 256) (hb : b < 256) (hc : c < 256) (hd : d < 256) (hm : m < 256) : cat4 a b c d &&& cat4 m m m m = cat4 (a &&& m) (b &&& m) (c &&& m) (d &&& m) := by
  unfold cat4
  rw [and_cat ha hm, and_cat hb hm, and_cat hc hm]
theorem pcn_8 (b r : Nat) (hb : b < 256) : ∀ m : Nat, pcn (8 + m) (b + 256 * r) = P8 b + pcn m r := by
  intro m
  unfold P8
  rw [show 8 + m = m + 1 + 1 + 1 + 1 + 1 + 1 + 1 + 1 by omega]
  simp only [pcn]
  rw [show (b + 256 * r) / 2 / 2 / 2 / 2 / 2 / 2 / 2 / 2 = r by omega]
  omega
theorem fin4 {p q r s : Nat} (hp : p ≤ 8) (hq : q ≤ 8) (hr : r ≤ 8) (hs : s ≤ 8) : (cat4 p q r s + cat4 p q r s / 256 + (cat4 p q r s + cat4 p q r s / 256) / 65536) % 64 = p + (q + (r + s)) := by
  have e1 : cat4 p q r s / 256 = q + 256 * (r + 256 * s) := by unfold cat4; omega
  have e2 : cat4 p q r s + cat4 p q r s / 256 = (p + q) + 256 * (q + r) + 65536 * (r + s) + 16777216 * s := by rw [e1]; unfold cat4; omega
  have e3 : (cat4 p q r s + cat4 p q r s / 256) / 65536 = (r + s) + 256 * s := by rw [e2]; omega
  rw [e3, e2]
  omega
theorem swar_pc {n : Nat} (hn : n < 4294967296) : swar n = pcn 32 n := by
  obtain ⟨a, b, c, d, ha, hb, hc, hd, rfl⟩ : ∃ a b c d, a < 256 ∧ b < 256 ∧ c < 256 ∧ d < 256 ∧ n = cat4 a b c d := ⟨n % 256, n / 256 % 256, n / 65536 % 256, n / 16777216, by omega, by omega, by omega, by omega, by unfold cat4; omega⟩
  have A := sw3 a ha
  have B := sw3 b hb
  have C := sw3 c hc
  have D := sw3 d hd
  have e1 : cat4 a b c d / 2 = cat4 (a / 2 + 128 * (b % 2)) (b / 2 + 128 * (c % 2)) (c / 2 + 128 * (d % 2)) (d / 2 + 128 * 0) := by unfold cat4; omega
  have m1 : (cat4 a b c d / 2) &&& 1431655765 = cat4 ((a / 2) &&& 85) ((b / 2) &&& 85) ((c / 2) &&& 85) ((d / 2) &&& 85) := by
    rw [e1, show (1431655765 : Nat) = cat4 85 85 85 85 from rfl, and_cat4 (by omega) (by omega) (by omega) (by omega) (by omega), sw1 a ha _ (by omega), sw1 b hb _ (by omega), sw1 c hc _ (by omega), sw1 d hd _ (by omega)]
  have f1 : cat4 a b c d - ((cat4 a b c d / 2) &&& 1431655765) = cat4 (q1 a) (q1 b) (q1 c) (q1 d) := by
    rw [m1]
    unfold cat4 q1
    omega
  have e2 : cat4 (q1 a) (q1 b) (q1 c) (q1 d) / 4 = cat4 (q1 a / 4 + 64 * (q1 b % 4)) (q1 b / 4 + 64 * (q1 c % 4)) (q1 c / 4 + 64 * (q1 d % 4)) (q1 d / 4 + 64 * 0) := by unfold cat4; omega
  have m2 : (cat4 (q1 a) (q1 b) (q1 c) (q1 d) &&& 858993459) + ((cat4 (q1 a) (q1 b) (q1 c) (q1 d) / 4) &&& 858993459) = cat4 (q2 a) (q2 b) (q2 c) (q2 d) := by
    rw [e2, show (858993459 : Nat) = cat4 51 51 51 51 from rfl, and_cat4 (by omega) (by omega) (by omega) (by omega) (by omega), and_cat4 (by omega) (by omega) (by omega) (by omega) (by omega), sw2 (q1 a) (by omega) _ (by omega), sw2 (q1 b) (by omega) _ (by omega), sw2 (q1 c) (by omega) _ (by omega), sw2 (q1 d) (by omega) _ (by omega)]
    unfold cat4 q2
    omega
  have e3 : cat4 (q2 a) (q2 b) (q2 c) (q2 d) + cat4 (q2 a) (q2 b) (q2 c) (q2 d) / 16 = cat4 (q2 a + q2 a / 16 + 16 * (q2 b % 16)) (q2 b + q2 b / 16 + 16 * (q2 c % 16)) (q2 c + q2 c / 16 + 16 * (q2 d % 16)) (q2 d + q2 d / 16 + 16 * 0) := by unfold cat4; omega
  have s4a := sw4 a ha (q2 b % 16) (by omega)
  have s4b := sw4 b hb (q2 c % 16) (by omega)
  have s4c := sw4 c hc (q2 d % 16) (by omega)
  have s4d := sw4 d hd 0 (by omega)
  have m3 : (cat4 (q2 a) (q2 b) (q2 c) (q2 d) + cat4 (q2 a) (q2 b) (q2 c) (q2 d) / 16) &&& 252645135 = cat4 (P8 a) (P8 b) (P8 c) (P8 d) := by
    rw [e3, show (252645135 : Nat) = cat4 15 15 15 15 from rfl, and_cat4 s4a.2 s4b.2 s4c.2 s4d.2 (by omega), s4a.1, s4b.1, s4c.1, s4d.1]
  have hr : pcn 32 (cat4 a b c d) = P8 a + (P8 b + (P8 c + P8 d)) := by
    unfold cat4
    rw [show (32 : Nat) = 8 + 24 from rfl, pcn_8 _ _ ha, show (24 : Nat) = 8 + 16 from rfl, pcn_8 _ _ hb, show (16 : Nat) = 8 + 8 from rfl, pcn_8 _ _ hc]
    rfl
  unfold swar
  simp only
  rw [f1, m2, m3, hr]
  rw [show (63 : Nat) = 2 ^ 6 - 1 from rfl, Nat.and_two_pow_sub_one_eq_mod]
  exact fin4 A.2.2.2.2.2.2 B.2.2.2.2.2.2 C.2.2.2.2.2.2 D.2.2.2.2.2.2
/-- the bits of an int, unsigned -/
def uI (x : Int) : Nat := (Int32.ofInt x).toBitVec.toNat
theorem uI_lt (x : Int) : uI x < 4294967296 := (Int32.ofInt x).toBitVec.isLt
theorem uI_and (a b : Int) : uI (bAnd a b) = uI a &&& uI b := by
  unfold uI bAnd
  rw [Int32.ofInt_toInt, Int32.toBitVec_and, BitVec.toNat_and]
theorem uI_w32 (z : Int) : uI (w32 z) = uI z := by
  unfold uI w32
  rw [Int32.ofInt_toInt]
theorem uI_sub (a b : Int) : uI (w32 (a - b)) = (uI a + (4294967296 - uI b)) % 4294967296 := by
  rw [uI_w32]
  unfold uI
  rw [Int32.ofInt_sub, Int32.toBitVec_sub, BitVec.toNat_sub]
  congr 1
  omega
theorem uI_add (a b : Int) : uI (w32 (a + b)) = (uI a + uI b) % 4294967296 := by
  rw [uI_w32]
  unfold uI
  rw [Int32.ofInt_add, Int32.toBitVec_add, BitVec.toNat_add]
theorem ush_sh : ∀ k : Nat, k < 32 → ((Int32.ofInt (k : Int)).toUInt32 &&& Int32.toUInt32 31).toBitVec % 32 = BitVec.ofNat 32 k := by decide +kernel
theorem uI_ush (a : Int) {k : Nat} (hk : k < 32) : uI (bUsh a (k : Int)) = uI a / 2 ^ k := by
  unfold uI bUsh
  rw [Int32.ofInt_toInt]
  show ((Int32.ofInt a).toUInt32 >>> ((Int32.ofInt (k : Int)).toUInt32 &&& Int32.toUInt32 31)).toBitVec.toNat = _
  rw [UInt32.toBitVec_shiftRight, ush_sh k hk]
  have e : (BitVec.ofNat 32 k).toNat = k := by simp; omega
  show ((Int32.ofInt a).toBitVec >>> (BitVec.ofNat 32 k)).toNat = _
  rw [BitVec.ushiftRight_eq', e, BitVec.toNat_ushiftRight, Nat.shiftRight_eq_div_pow]
theorem uI_nat {n : Nat} (h : n < 2147483648) : uI (n : Int) = n := by
  unfold uI
  rw [o32N, Int32.toBitVec_ofNat', BitVec.toNat_ofNat]
  omega
theorem uI_eq {x : Int} (h : ir x) (hu : uI x < 2147483648) : x = (uI x : Int) := by
  have h1 : (Int32.ofInt x).toInt = x := i32_ti h
  unfold uI at *
  have h2 : (Int32.ofInt x).toInt = ((Int32.ofInt x).toBitVec.toNat : Int) := by
    show (Int32.ofInt x).toBitVec.toInt = _
    rw [BitVec.toInt_eq_toNat_of_lt (by omega)]
  omega
theorem ir_ti (z : Int32) : ir z.toInt := ⟨Int32.le_toInt z, Int32.toInt_lt z⟩
theorem ir_and (a b : Int) : ir (bAnd a b) := ir_ti _
theorem ir_or (a b : Int) : ir (bOr a b) := ir_ti _
section RW
variable {d : Nat} {q : MI} {pc : Nat} {ls st : List SV} {g : Hp}
theorem ev_isubW {a b : Int} (hd : decode q.2.2.2.1 pc = .ok (.isub, 1)) : EV d q pc ls (vI b :: vI a :: st) g = EV d q (pc + 1) ls (vI (w32 (a - b)) :: st) g := ev_sx hd rfl rfl rfl rfl
theorem ev_iaddW {a b : Int} (hd : decode q.2.2.2.1 pc = .ok (.iadd, 1)) : EV d q pc ls (vI b :: vI a :: st) g = EV d q (pc + 1) ls (vI (w32 (a + b)) :: st) g := ev_sx hd rfl rfl rfl rfl
end RW
def bc1 (x : Int) : Int := w32 (x - bAnd (bUsh x 1) 1431655765)
def bc2 (x : Int) : Int := w32 (bAnd x 858993459 + bAnd (bUsh x 2) 858993459)
def bc3 (x : Int) : Int := bAnd (w32 (x + bUsh x 4)) 252645135
def bc4 (x : Int) : Int := w32 (x + bUsh x 8)
def bc5 (x : Int) : Int := w32 (x + bUsh x 16)
theorem c_bitCount0 (g : Hp) (x : Int) : EV 8 qJ6_bitCount_0f7a4 0 [vI x] [] g = some (some (vI (bAnd (bc5 (bc4 (bc3 (bc2 (bc1 x))))) 63)), g) := by
  rw [ev_iload_n (q := qJ6_bitCount_0f7a4) (pc := 0) dJ6_bitCount_0f7a4_0 rfl, ev_iload_n (q := qJ6_bitCount_0f7a4) (pc := 1) dJ6_bitCount_0f7a4_1 rfl, ev_iconst (q := qJ6_bitCount_0f7a4) (pc := 2) dJ6_bitCount_0f7a4_2 (by decide), ev_iushr (q := qJ6_bitCount_0f7a4) (pc := 3) dJ6_bitCount_0f7a4_3, ev_ldcw (q := qJ6_bitCount_0f7a4) (pc := 4) dJ6_bitCount_0f7a4_4 kt_20_265, ev_iand (q := qJ6_bitCount_0f7a4) (pc := 7) dJ6_bitCount_0f7a4_7, ev_isubW (q := qJ6_bitCount_0f7a4) (pc := 8) dJ6_bitCount_0f7a4_8, ev_istore_n (q := qJ6_bitCount_0f7a4) (pc := 9) dJ6_bitCount_0f7a4_9 (Nat.le_of_ble_eq_true rfl) rfl]
  show EV 8 qJ6_bitCount_0f7a4 10 [vI (bc1 x)] [] g = _
  generalize bc1 x = y
  rw [ev_iload_n (q := qJ6_bitCount_0f7a4) (pc := 10) dJ6_bitCount_0f7a4_10 rfl, ev_ldcw (q := qJ6_bitCount_0f7a4) (pc := 11) dJ6_bitCount_0f7a4_11 kt_20_266, ev_iand (q := qJ6_bitCount_0f7a4) (pc := 14) dJ6_bitCount_0f7a4_14, ev_iload_n (q := qJ6_bitCount_0f7a4) (pc := 15) dJ6_bitCount_0f7a4_15 rfl, ev_iconst (q := qJ6_bitCount_0f7a4) (pc := 16) dJ6_bitCount_0f7a4_16 (by decide), ev_iushr (q := qJ6_bitCount_0f7a4) (pc := 17) dJ6_bitCount_0f7a4_17, ev_ldcw (q := qJ6_bitCount_0f7a4) (pc := 18) dJ6_bitCount_0f7a4_18 kt_20_266, ev_iand (q := qJ6_bitCount_0f7a4) (pc := 21) dJ6_bitCount_0f7a4_21, ev_iaddW (q := qJ6_bitCount_0f7a4) (pc := 22) dJ6_bitCount_0f7a4_22, ev_istore_n (q := qJ6_bitCount_0f7a4) (pc := 23) dJ6_bitCount_0f7a4_23 (Nat.le_of_ble_eq_true rfl) rfl]
  show EV 8 qJ6_bitCount_0f7a4 24 [vI (bc2 y)] [] g = _
  generalize bc2 y = z
  rw [ev_iload_n (q := qJ6_bitCount_0f7a4) (pc := 24) dJ6_bitCount_0f7a4_24 rfl, ev_iload_n (q := qJ6_bitCount_0f7a4) (pc := 25) dJ6_bitCount_0f7a4_25 rfl, ev_iconst (q := qJ6_bitCount_0f7a4) (pc := 26) dJ6_bitCount_0f7a4_26 (by decide), ev_iushr (q := qJ6_bitCount_0f7a4) (pc := 27) dJ6_bitCount_0f7a4_27, ev_iaddW (q := qJ6_bitCount_0f7a4) (pc := 28) dJ6_bitCount_0f7a4_28, ev_ldcw (q := qJ6_bitCount_0f7a4) (pc := 29) dJ6_bitCount_0f7a4_29 kt_20_267, ev_iand (q := qJ6_bitCount_0f7a4) (pc := 32) dJ6_bitCount_0f7a4_32, ev_istore_n (q := qJ6_bitCount_0f7a4) (pc := 33) dJ6_bitCount_0f7a4_33 (Nat.le_of_ble_eq_true rfl) rfl]
  show EV 8 qJ6_bitCount_0f7a4 34 [vI (bc3 z)] [] g = _
  generalize bc3 z = w
  rw [ev_iload_n (q := qJ6_bitCount_0f7a4) (pc := 34) dJ6_bitCount_0f7a4_34 rfl, ev_iload_n (q := qJ6_bitCount_0f7a4) (pc := 35) dJ6_bitCount_0f7a4_35 rfl, ev_bipush (q := qJ6_bitCount_0f7a4) (pc := 36) dJ6_bitCount_0f7a4_36 (by decide), ev_iushr (q := qJ6_bitCount_0f7a4) (pc := 38) dJ6_bitCount_0f7a4_38, ev_iaddW (q := qJ6_bitCount_0f7a4) (pc := 39) dJ6_bitCount_0f7a4_39, ev_istore_n (q := qJ6_bitCount_0f7a4) (pc := 40) dJ6_bitCount_0f7a4_40 (Nat.le_of_ble_eq_true rfl) rfl]
  show EV 8 qJ6_bitCount_0f7a4 41 [vI (bc4 w)] [] g = _
  generalize bc4 w = v
  rw [ev_iload_n (q := qJ6_bitCount_0f7a4) (pc := 41) dJ6_bitCount_0f7a4_41 rfl, ev_iload_n (q := qJ6_bitCount_0f7a4) (pc := 42) dJ6_bitCount_0f7a4_42 rfl, ev_bipush (q := qJ6_bitCount_0f7a4) (pc := 43) dJ6_bitCount_0f7a4_43 (by decide), ev_iushr (q := qJ6_bitCount_0f7a4) (pc := 45) dJ6_bitCount_0f7a4_45, ev_iaddW (q := qJ6_bitCount_0f7a4) (pc := 46) dJ6_bitCount_0f7a4_46, ev_istore_n (q := qJ6_bitCount_0f7a4) (pc := 47) dJ6_bitCount_0f7a4_47 (Nat.le_of_ble_eq_true rfl) rfl]
  show EV 8 qJ6_bitCount_0f7a4 48 [vI (bc5 v)] [] g = _
  generalize bc5 v = u
  rw [ev_iload_n (q := qJ6_bitCount_0f7a4) (pc := 48) dJ6_bitCount_0f7a4_48 rfl, ev_bipush (q := qJ6_bitCount_0f7a4) (pc := 49) dJ6_bitCount_0f7a4_49 (by decide), ev_iand (q := qJ6_bitCount_0f7a4) (pc := 51) dJ6_bitCount_0f7a4_51, ev_ireturn (q := qJ6_bitCount_0f7a4) (pc := 52) dJ6_bitCount_0f7a4_52 (Or.inl rfl)]
theorem c_bitCount (g : Hp) (x : Int) : EV 8 qJ6_bitCount_0f7a4 0 [vI x] [] g = some (some (vI (pcn 32 (uI x) : Int)), g) := by
  rw [c_bitCount0]
  refine ans_eq ?_
  have hx := uI_lt x
  have hm : ∀ a b : Nat, a &&& b ≤ b := fun a b => Nat.and_le_right
  have u1 : uI (bc1 x) = uI x - ((uI x / 2) &&& 1431655765) := by
    unfold bc1
    rw [uI_sub, uI_and, show (1 : Int) = ((1 : Nat) : Int) from rfl, uI_ush x (by omega), show (1431655765 : Int) = ((1431655765 : Nat) : Int) from rfl, uI_nat (by omega)]
    have : ((uI x / 2 ^ 1) &&& 1431655765) ≤ uI x / 2 ^ 1 := Nat.and_le_left
    rw [show (2 : Nat) ^ 1 = 2 from rfl] at *
    omega
  have l1 := uI_lt (bc1 x)
  have u2 : uI (bc2 (bc1 x)) = (uI (bc1 x) &&& 858993459) + ((uI (bc1 x) / 4) &&& 858993459) := by
    unfold bc2
    rw [uI_add, uI_and, uI_and, show (2 : Int) = ((2 : Nat) : Int) from rfl, uI_ush _ (by omega), show (858993459 : Int) = ((858993459 : Nat) : Int) from rfl, uI_nat (by omega)]
    have a := hm (uI (bc1 x)) 858993459
    have b := hm (uI (bc1 x) / 2 ^ 2) 858993459
    rw [show (2 : Nat) ^ 2 = 4 from rfl] at *
    omega
  have u3 : uI (bc3 (bc2 (bc1 x))) = (uI (bc2 (bc1 x)) + uI (bc2 (bc1 x)) / 16) &&& 252645135 := by
    unfold bc3
    rw [uI_and, uI_add, show (4 : Int) = ((4 : Nat) : Int) from rfl, uI_ush _ (by omega), show (252645135 : Int) = ((252645135 : Nat) : Int) from rfl, uI_nat (by omega)]
    congr 1
    have a := hm (uI (bc1 x)) 858993459
    have b := hm (uI (bc1 x) / 4) 858993459
    rw [show (2 : Nat) ^ 4 = 16 from rfl]
    omega
  have b3 : uI (bc3 (bc2 (bc1 x))) ≤ 252645135 := by rw [u3]; exact Nat.and_le_right
  have u4 : uI (bc4 (bc3 (bc2 (bc1 x)))) = uI (bc3 (bc2 (bc1 x))) + uI (bc3 (bc2 (bc1 x))) / 256 := by
    unfold bc4
    rw [uI_add, show (8 : Int) = ((8 : Nat) : Int) from rfl, uI_ush _ (by omega), show (2 : Nat) ^ 8 = 256 from rfl]
    omega
  have u5 : uI (bc5 (bc4 (bc3 (bc2 (bc1 x))))) = uI (bc4 (bc3 (bc2 (bc1 x)))) + uI (bc4 (bc3 (bc2 (bc1 x)))) / 65536 := by
    unfold bc5
    rw [uI_add, show (16 : Int) = ((16 : Nat) : Int) from rfl, uI_ush _ (by omega), show (2 : Nat) ^ 16 = 65536 from rfl]
    omega
  have u6 : uI (bAnd (bc5 (bc4 (bc3 (bc2 (bc1 x))))) 63) = pcn 32 (uI x) := by
    rw [uI_and, show (63 : Int) = ((63 : Nat) : Int) from rfl, uI_nat (by omega), ← swar_pc hx, u5, u4, u3, u2, u1]
    rfl
  have b6 : uI (bAnd (bc5 (bc4 (bc3 (bc2 (bc1 x))))) 63) ≤ 63 := by
    rw [uI_and, show (63 : Int) = ((63 : Nat) : Int) from rfl, uI_nat (by omega)]
    exact Nat.and_le_right
  rw [uI_eq (ir_and _ _) (by omega), u6]
theorem pcn_le : ∀ m n : Nat, pcn m n ≤ m := by
  intro m
  induction m with
  | zero => intro n; exact Nat.le_refl 0
  | succ m ih =>
    intro n
    rw [pcn]
    have := ih (n / 2)
    omega
theorem m_many_it (g : Hp) (x0 n x : Int) (hn : 0 ≤ n ∧ n < 100) : EV 8 qX12_many 8 [vI x0, vI n, vI x] [] g = EV 8 qX12_many 4 [vI x0, vI (n + 1), vI (bAnd x (w32 (x - 1)))] [] g := by
  rw [ev_iinc (q := qX12_many) (pc := 8) dX12_many_8 rfl ⟨by omega, by omega⟩ rfl]
  show EV 8 qX12_many 11 [vI x0, vI (n + 1), vI x] [] g = _
  rw [ev_iload_n (q := qX12_many) (pc := 11) dX12_many_11 rfl, ev_iload_n (q := qX12_many) (pc := 12) dX12_many_12 rfl, ev_iconst (q := qX12_many) (pc := 13) dX12_many_13 (by decide), ev_isubW (q := qX12_many) (pc := 14) dX12_many_14, ev_iand (q := qX12_many) (pc := 15) dX12_many_15, ev_istore_n (q := qX12_many) (pc := 16) dX12_many_16 (Nat.le_of_ble_eq_true rfl) rfl]
  exact ev_goto (q := qX12_many) (pc := 17) (t := 4) dX12_many_17 (by decide)
theorem m_many (g : Hp) (x : Int) (hx : ir x) : EV 8 qX12_many 0 [vI x, vU, vU] [] g = some (some (vI (pcn 32 (uI x) : Int)), g) := by
  have loop : ∀ (m : Nat) (n y : Int), ir y → pcn 32 (uI y) = m → 0 ≤ n → n + (m : Int) ≤ 32 → EV 8 qX12_many 4 [vI x, vI n, vI y] [] g = some (some (vI (n + (m : Int))), g) := by
    intro m
    induction m with
    | zero =>
      intro n y hy hm h0 h1
      have hu : uI y = 0 := by
        rcases Nat.eq_zero_or_pos (uI y) with z | z
        · exact z
        · have := pcn_low 32 (uI y) z (uI_lt y)
          omega
      have hy0 : y = 0 := by
        have := uI_eq hy (by omega)
        omega
      rw [bX12_many_4, if_pos hy0, bX12_many_20]
      exact ans_eq (by omega)
    | succ m ih =>
      intro n y hy hm h0 h1
      have hpos : 0 < uI y := by
        rcases Nat.eq_zero_or_pos (uI y) with z | z
        · rw [z, pcn_0] at hm
          omega
        · exact z
      have hy0 : ¬ y = 0 := by
        intro z
        subst z
        have : uI 0 = 0 := by decide
        omega
      have hl := uI_lt y
      have e : uI (bAnd y (w32 (y - 1))) = uI y &&& (uI y - 1) := by
        rw [uI_and, uI_sub, show (1 : Int) = ((1 : Nat) : Int) from rfl, uI_nat (by omega), show (uI y + (4294967296 - 1)) % 4294967296 = uI y - 1 by omega]
      have hp := pcn_low 32 (uI y) hpos hl
      rw [bX12_many_4, if_neg hy0, m_many_it _ _ _ _ (by omega), ih (n + 1) _ (ir_and _ _) (by rw [e]; omega) (by omega) (by omega)]
      exact ans_eq (by omega)
  have hle := pcn_le 32 (uI x)
  rw [bX12_many_0, loop (pcn 32 (uI x)) 0 x hx rfl (by omega) (by omega)]
  exact ans_eq (by omega)
