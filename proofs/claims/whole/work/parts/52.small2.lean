/-! digest -/
def mx (h v : Int) : Int := w64 (w64 (31 * h) + v)
def dB (φ : Int → Int) : Nat → Int → Int → Int
  | 0, _, h => h
  | m + 1, k, h => dB φ m (k + 1) (mx (mx (mx (mx h (φ (1 + k))) (φ (6 + k))) (φ (11 + k))) (φ (16 + k)))
def dC (φ : Int → Int) : Nat → Int → Int → Int
  | 0, _, h => h
  | m + 1, k, h => dC φ m (k + 1) (mx (mx (mx h (φ (23 + k))) (φ (25 + k))) (φ (27 + k)))
def dP (φ : Int → Int) : Nat → Int → Int → Int
  | 0, _, h => h
  | m + 1, k, h => dP φ m (k + 1) (mx (mx h (φ (30 + k))) (φ (33 + k)))
def dAll (φ : Int → Int) (tx : Int) : Int := dP φ (φ 29).toNat 0 (dC φ (φ 22).toNat 0 (mx (dB φ (φ 0).toNat 0 (mx (mx (mx (mx (mx 773 (φ 0)) (φ 22)) (φ 29)) (φ 36)) tx)) (φ 21)))
theorem c_digest {g : Hp} {φ : Int → Int} (hI : FI φ) (hC : ClsF g 1 φ) : EV 9 qX11_digest 0 [vR 0, vU, vU] [] g = some (some (vL (dAll φ (g 79 1))), g) := by
  obtain ⟨h0, hbb, hl, hc, hch, hch2, hp, hpp, hs, hss⟩ := hI
  obtain ⟨c0, c1, c2, c3, c4, c5, c6, c7, c8⟩ := hC
  have lB : ∀ (m : Nat) (k y h : Int), 0 ≤ k → k + m = φ 0 → EV 8 qX2_digestOn 5 [vR 1, vL y, vU, vL h, vU, vI k] [] g = EV 8 qX2_digestOn 80 [vR 1, vL y, vU, vL (dB φ m k h), vU, vI (φ 0)] [] g := by
    intro m
    induction m with
    | zero =>
      intro k y h k0 hk
      rw [bX2_digestOn_5 hF1, if_pos (by omega), show k = φ 0 by omega]
      rfl
    | succ m ih =>
      intro k y h k0 hk
      have q := c1 k k0 (by omega)
      rw [bX2_digestOn_5 hF1, if_neg (by omega), bX2_digestOn_14 hF1 _ _ _ _ (by omega) (by omega) (by omega) (by omega) (by omega), q.1, q.2.1, q.2.2.1, q.2.2.2]
      exact ih (k + 1) y _ (by omega) (by omega)
  have lC : ∀ (m : Nat) (k y h : Int), 0 ≤ k → k + m = φ 22 → EV 8 qX2_digestOn 95 [vR 1, vL y, vU, vL h, vU, vI k] [] g = EV 8 qX2_digestOn 155 [vR 1, vL y, vU, vL (dC φ m k h), vU, vI (φ 22)] [] g := by
    intro m
    induction m with
    | zero =>
      intro k y h k0 hk
      rw [bX2_digestOn_95 hF1, if_pos (by omega), show k = φ 22 by omega]
      rfl
    | succ m ih =>
      intro k y h k0 hk
      have q := c4 k k0 (by omega)
      rw [bX2_digestOn_95 hF1, if_neg (by omega), bX2_digestOn_104 hF1 _ _ _ _ (by omega) (by omega) (by omega) (by omega), q.1, q.2.1, q.2.2]
      exact ih (k + 1) y _ (by omega) (by omega)
  have lP : ∀ (m : Nat) (k y h : Int), 0 ≤ k → k + m = φ 29 → EV 8 qX2_digestOn 158 [vR 1, vL y, vU, vL h, vU, vI k] [] g = some (some (vL (dP φ m k h)), g) := by
    intro m
    induction m with
    | zero =>
      intro k y h k0 hk
      rw [bX2_digestOn_158 hF1, if_pos (by omega), bX2_digestOn_203 hF1]
      rfl
    | succ m ih =>
      intro k y h k0 hk
      have q := c6 k k0 (by omega)
      rw [bX2_digestOn_158 hF1, if_neg (by omega), bX2_digestOn_167 hF1 _ _ _ _ (by omega) (by omega) (by omega), q.1, q.2]
      exact ih (k + 1) y _ (by omega) (by omega)
  have c7' : g 18 1 = φ 36 := c7
  rw [bX11_digest_0, bX2_digestOn_0 hF1, lB (φ 0).toNat 0 _ _ (by omega) (by omega), bX2_digestOn_80 hF1, lC (φ 22).toNat 0 _ _ (by omega) (by omega), bX2_digestOn_155 hF1, lP (φ 29).toNat 0 _ _ (by omega) (by omega), bnd_some, c0, c2, c3, c5, c7']
  exact bX11_digest_90 _ _ _
theorem m_mix (g : Hp) (h v : Int) : EV 8 qX12_mix 0 [vR 86, vL v, vU] [] (up g 86 23 h) = some (none, up g 86 23 (mx h v)) := by
  rw [bX12_mix_0, up_eq, up_up]
  rfl
theorem m_countOf (g : Hp) (x : Int) : EV 8 qX12_countOf 0 [vR 86, vI x] [] g = some (some (vI (if x = 0 then g 87 0 else if x = 1 then g 87 22 else if x = 2 then g 87 29 else if x = 3 then g 87 36 else g 86 3)), g) := by
  simp only [bX12_countOf_0, bX12_countOf_4, bX12_countOf_13, bX12_countOf_18, bX12_countOf_28, bX12_countOf_33, bX12_countOf_43, bX12_countOf_48, bX12_countOf_58, bX12_countOf_62]
  repeat' split
  all_goals rfl
theorem m_digest {g : Hp} {φ : Int → Int} (hI : FI φ) (hφ : φ = rg g 0) : EV 9 qX12_digest 0 [vR 86, vU] [] g = some (some (vL (dAll φ (g 86 3))), up g 86 23 (dAll φ (g 86 3))) := by
  obtain ⟨h0, hbb, hl, hc, hch, hch2, hp, hpp, hs, hss⟩ := hI
  have e : ∀ k h, up g 86 23 h 87 k = φ k := fun k h => by rw [up_ne (by omega), hφ, rg_at, Int.zero_add]
  have e3 : ∀ h, up g 86 23 h 86 3 = g 86 3 := fun h => up_nei (by omega)
  have one : ∀ (x h : Int), x < 5 → -100 ≤ x → EV 9 qX12_digest 9 [vR 86, vI x] [] (up g 86 23 h) = EV 9 qX12_digest 9 [vR 86, vI (x + 1)] [] (up g 86 23 (mx h (if x = 0 then φ 0 else if x = 1 then φ 22 else if x = 2 then φ 29 else if x = 3 then φ 36 else g 86 3))) := fun x h hx hx2 => by
    rw [bX12_digest_9, if_neg (by omega), bX12_digest_14, m_countOf, bnd_some]
    show EV 9 qX12_digest 20 _ [vI _, vR 86] _ = _
    rw [bX12_digest_20, m_mix, bnd_some]
    show EV 9 qX12_digest 24 _ [] _ = _
    rw [bX12_digest_24 _ _ (by omega), e, e, e, e, e3]
  have lB : ∀ (m : Nat) (k h : Int), 0 ≤ k → k + m = φ 0 → EV 9 qX12_digest 32 [vR 86, vI k] [] (up g 86 23 h) = EV 9 qX12_digest 103 [vR 86, vI (φ 0)] [] (up g 86 23 (dB φ m k h)) := by
    intro m
    induction m with
    | zero =>
      intro k h k0 hk
      rw [bX12_digest_32, e, if_pos (by omega), show k = φ 0 by omega]
      rfl
    | succ m ih =>
      intro k h k0 hk
      rw [bX12_digest_32, e, if_neg (by omega), bX12_digest_42 _ _ (by omega) (by omega), e, m_mix, bnd_some]
      show EV 9 qX12_digest 55 _ [] _ = _
      rw [bX12_digest_55 _ _ (by omega) (by omega), e, m_mix, bnd_some]
      show EV 9 qX12_digest 69 _ [] _ = _
      rw [bX12_digest_69 _ _ (by omega) (by omega), e, m_mix, bnd_some]
      show EV 9 qX12_digest 83 _ [] _ = _
      rw [bX12_digest_83 _ _ (by omega) (by omega), e, m_mix, bnd_some]
      show EV 9 qX12_digest 97 _ [] _ = _
      rw [bX12_digest_97 _ _ (by omega)]
      exact ih (k + 1) _ (by omega) (by omega)
  have lC : ∀ (m : Nat) (k h : Int), 0 ≤ k → k + m = φ 22 → EV 9 qX12_digest 117 [vR 86, vI k] [] (up g 86 23 h) = EV 9 qX12_digest 176 [vR 86, vI (φ 22)] [] (up g 86 23 (dC φ m k h)) := by
    intro m
    induction m with
    | zero =>
      intro k h k0 hk
      rw [bX12_digest_117, e, if_pos (by omega), show k = φ 22 by omega]
      rfl
    | succ m ih =>
      intro k h k0 hk
      rw [bX12_digest_117, e, if_neg (by omega), bX12_digest_128 _ _ (by omega) (by omega), e, m_mix, bnd_some]
      show EV 9 qX12_digest 142 _ [] _ = _
      rw [bX12_digest_142 _ _ (by omega) (by omega), e, m_mix, bnd_some]
      show EV 9 qX12_digest 156 _ [] _ = _
      rw [bX12_digest_156 _ _ (by omega) (by omega), e, m_mix, bnd_some]
      show EV 9 qX12_digest 170 _ [] _ = _
      rw [bX12_digest_170 _ _ (by omega)]
      exact ih (k + 1) _ (by omega) (by omega)
  have lP : ∀ (m : Nat) (k h : Int), 0 ≤ k → k + m = φ 29 → EV 9 qX12_digest 178 [vR 86, vI k] [] (up g 86 23 h) = some (some (vL (dP φ m k h)), up g 86 23 (dP φ m k h)) := by
    intro m
    induction m with
    | zero =>
      intro k h k0 hk
      rw [bX12_digest_178, e, if_pos (by omega), bX12_digest_223, up_eq]
      rfl
    | succ m ih =>
      intro k h k0 hk
      rw [bX12_digest_178, e, if_neg (by omega), bX12_digest_189 _ _ (by omega) (by omega), e, m_mix, bnd_some]
      show EV 9 qX12_digest 203 _ [] _ = _
      rw [bX12_digest_203 _ _ (by omega) (by omega), e, m_mix, bnd_some]
      show EV 9 qX12_digest 217 _ [] _ = _
      rw [bX12_digest_217 _ _ (by omega)]
      exact ih (k + 1) _ (by omega) (by omega)
  rw [bX12_digest_0, one 0 _ (by omega) (by omega), show (0 : Int) + 1 = 1 from rfl, one 1 _ (by omega) (by omega), show (1 : Int) + 1 = 2 from rfl, one 2 _ (by omega) (by omega), show (2 : Int) + 1 = 3 from rfl, one 3 _ (by omega) (by omega), show (3 : Int) + 1 = 4 from rfl, one 4 _ (by omega) (by omega), show (4 : Int) + 1 = 5 from rfl, bX12_digest_9, if_pos (by omega), bX12_digest_30, lB (φ 0).toNat 0 _ (by omega) (by omega), bX12_digest_103, e, m_mix, bnd_some]
  show EV 9 qX12_digest 115 _ [] _ = _
  rw [bX12_digest_115, lC (φ 22).toNat 0 _ (by omega) (by omega), bX12_digest_176, lP (φ 29).toNat 0 _ (by omega) (by omega)]
  rfl
theorem o_digest {g : Hp} {n : Int} (hR : Rel g n) : OpkL g n (EV 9 qX11_digest 0 [vR 0, vU, vU] []) (EV 9 qX12_digest 0 [vR 86, vU] []) := by
  refine OpkL.ro hR (y := dAll (rg g 0) (g 79 1)) (c_digest hR.1.1 hR.1.2) ?_ (frT.refl g) (g2 := up g 86 23 (dAll (rg g 0) (g 86 3))) ⟨fun a a1 _ => by funext i; rw [up_ne a1], by rw [up_nei (by omega)]⟩
  rw [m_digest hR.1.1 rfl, hR.2.2.1.1]
/-! bytes come to the text -/
theorem sh_a : ∀ i : Nat, i < 8 → (((Int32.ofInt (8 * (i : Int))).toInt64 &&& 63).toBitVec.smod 64) = BitVec.ofNat 64 (8 * i) := by decide +kernel
theorem sh_b : ∀ i : Nat, i < 8 → (((Int32.ofInt (8 * (i : Int))).toInt64.toUInt64 &&& Int64.toUInt64 63).toBitVec % 64) = BitVec.ofNat 64 (8 * i) := by decide +kernel
theorem i255 : (Int64.ofInt 255).toBitVec = 255#64 := by decide
theorem bv255 (i : Nat) : (255#64).getLsbD i = decide (i < 8) := by
  by_cases h : i < 8
  · have : ∀ j : Nat, j < 8 → (255#64).getLsbD j = true := by decide
    rw [this i h]
    simp [h]
  · by_cases h2 : i < 64
    · have : ∀ j : Nat, j < 64 → ¬ j < 8 → (255#64).getLsbD j = false := by decide
      rw [this i h2 h]
      simp [h]
    · rw [BitVec.getLsbD_of_ge _ _ (by omega)]
      simp [h]
theorem byt_a (y : Int) {i : Nat} (hi : i < 8) : (Int64.ofInt (lShr y (8 * (i : Int))) &&& Int64.ofInt 255).toBitVec = ((Int64.ofInt y).toBitVec >>> (8 * i)) &&& 255#64 := by
  unfold lShr
  rw [Int64.ofInt_toInt, Int64.toBitVec_and, Int64.toBitVec_shiftRight, sh_a i hi, i255]
  apply BitVec.eq_of_getLsbD_eq
  intro j hj
  rw [BitVec.getLsbD_and, BitVec.getLsbD_and, bv255]
  by_cases h8 : j < 8
  · rw [BitVec.getLsbD_ushiftRight]
    have e : (BitVec.ofNat 64 (8 * i)).toNat = 8 * i := by simp; omega
    have h64 : 8 * i + j < 64 := by omega
    have hj64 : ¬ 64 ≤ j := by omega
    unfold BitVec.sshiftRight'
    rw [e, BitVec.getLsbD_sshiftRight]
    simp only [h8, h64, hj64, if_true, decide_true, decide_false, Bool.not_false, Bool.true_and, Bool.and_true]
  · simp [h8]
theorem byt_b (y : Int) {i : Nat} (hi : i < 8) : (Int64.ofInt (lUsh y (8 * (i : Int))) &&& Int64.ofInt 255).toBitVec = ((Int64.ofInt y).toBitVec >>> (8 * i)) &&& 255#64 := by
  unfold lUsh
  rw [Int64.ofInt_toInt, Int64.toBitVec_and, i255]
  have e : ((Int64.ofInt y).toUInt64 >>> ((Int32.ofInt (8 * (i : Int))).toInt64.toUInt64 &&& Int64.toUInt64 63)).toInt64.toBitVec = (Int64.ofInt y).toBitVec >>> (8 * i) := by
    show ((Int64.ofInt y).toUInt64 >>> ((Int32.ofInt (8 * (i : Int))).toInt64.toUInt64 &&& Int64.toUInt64 63)).toBitVec = _
    rw [UInt64.toBitVec_shiftRight, sh_b i hi]
    have e : (BitVec.ofNat 64 (8 * i)).toNat = 8 * i := by simp; omega
    show (Int64.ofInt y).toBitVec >>> (BitVec.ofNat 64 (8 * i)) = _
    rw [BitVec.ushiftRight_eq', e]
  rw [e]
theorem byt (y : Int) {i : Nat} (hi : i < 8) : w32 (lAnd (lUsh y (8 * (i : Int))) 255) = w32 (lAnd (lShr y (8 * (i : Int))) 255) ∧ 0 ≤ w32 (lAnd (lShr y (8 * (i : Int))) 255) ∧ w32 (lAnd (lShr y (8 * (i : Int))) 255) ≤ 255 := by
  have a : Int64.ofInt (lUsh y (8 * (i : Int))) &&& Int64.ofInt 255 = Int64.ofInt (lShr y (8 * (i : Int))) &&& Int64.ofInt 255 := by
    apply Int64.toBitVec_inj.mp
    rw [byt_a y hi, byt_b y hi]
  unfold lAnd
  refine ⟨by rw [a], ?_⟩
  have b := byt_a y hi
  generalize Int64.ofInt (lShr y (8 * (i : Int))) &&& Int64.ofInt 255 = z at b
  have hz : z.toInt = ((((Int64.ofInt y).toBitVec >>> (8 * i)) &&& 255#64).toNat : Int) := by
    show z.toBitVec.toInt = _
    rw [b, BitVec.toInt_eq_toNat_of_lt]
    rw [BitVec.toNat_and]
    have : (((Int64.ofInt y).toBitVec >>> (8 * i)).toNat &&& (255#64).toNat) ≤ (255#64).toNat := Nat.and_le_right
    have e2 : (255#64).toNat = 255 := by decide
    omega
  have hle : (((Int64.ofInt y).toBitVec >>> (8 * i)) &&& 255#64).toNat ≤ 255 := by
    rw [BitVec.toNat_and]
    have : (((Int64.ofInt y).toBitVec >>> (8 * i)).toNat &&& (255#64).toNat) ≤ (255#64).toNat := Nat.and_le_right
    have e2 : (255#64).toNat = 255 := by decide
    omega
  rw [hz, w32_id ⟨by omega, by omega⟩]
  omega
