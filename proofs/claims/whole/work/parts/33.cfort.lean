/-! the class's fort: telling it -/
theorem c_isRoom (g : Hp) (a : Int) : EV 8 qX11_isRoom 0 [vI a] [] g = some (some (vI (b01 (0 ≤ a ∧ a ≤ 4))), g) := by
  rw [bX11_isRoom_0]
  by_cases h1 : a < 0
  · rw [if_pos h1, bX11_isRoom_13, bX11_isRoom_14 _ _ _ (Or.inl rfl)]
    unfold b01
    rw [if_neg (by omega)]
  · rw [if_neg h1, bX11_isRoom_4]
    by_cases h2 : 5 ≤ a
    · rw [if_pos h2, bX11_isRoom_13, bX11_isRoom_14 _ _ _ (Or.inl rfl)]
      unfold b01
      rw [if_neg (by omega)]
    · rw [if_neg h2, bX11_isRoom_9, bX11_isRoom_14 _ _ _ (Or.inr rfl)]
      unfold b01
      rw [if_pos (by omega)]
theorem c_isBridge {f : Nat} (hF : isFort f) (g : Hp) (b : Int) : EV 8 qX2_isBridge 0 [vR f, vI b] [] g = some (some (vI (b01 (0 ≤ b ∧ b ≤ g f 1 - 1))), g) := by
  rw [bX2_isBridge_0 hF]
  by_cases h1 : b < 0
  · rw [if_pos h1, bX2_isBridge_16 hF, bX2_isBridge_17 hF _ _ _ (Or.inl rfl)]
    unfold b01
    rw [if_neg (by omega)]
  · rw [if_neg h1, bX2_isBridge_4 hF]
    by_cases h2 : g f 1 ≤ b
    · rw [if_pos h2, bX2_isBridge_16 hF, bX2_isBridge_17 hF _ _ _ (Or.inl rfl)]
      unfold b01
      rw [if_neg (by omega)]
    · rw [if_neg h2, bX2_isBridge_12 hF, bX2_isBridge_17 hF _ _ _ (Or.inr rfl)]
      unfold b01
      rw [if_pos (by omega)]
theorem c_addBridge_bad {f : Nat} (hF : isFort f) (g : Hp) (a b kd dn : Int) (h : ¬ okBr a b kd) : EV 9 qX2_addBridge 0 [vR f, vI a, vI b, vI kd, vI dn] [] g = some (some (vI (-2)), g) := by
  unfold okBr at h
  rw [bX2_addBridge_0 hF, c_isRoom, bnd_some]
  show EV 9 qX2_addBridge 4 _ [vI _] g = _
  rw [bX2_addBridge_4 hF]
  by_cases h1 : 0 ≤ a ∧ a ≤ 4
  · rw [if_neg (b01_pos h1), bX2_addBridge_7 hF, c_isRoom, bnd_some]
    show EV 9 qX2_addBridge 11 _ [vI _] g = _
    rw [bX2_addBridge_11 hF]
    by_cases h2 : 0 ≤ b ∧ b ≤ 4
    · rw [if_neg (b01_pos h2), bX2_addBridge_14 hF]
      by_cases h3 : a = b
      · rw [if_pos h3, bX2_addBridge_29 hF]
      · rw [if_neg h3, bX2_addBridge_19 hF]
        by_cases h4 : kd < 0
        · rw [if_pos h4, bX2_addBridge_29 hF]
        · rw [if_neg h4, bX2_addBridge_23 hF, if_neg (fun h5 => h ⟨h1, h2, h3, by omega, by omega⟩), bX2_addBridge_29 hF]
    · rw [if_pos (b01_neg h2), bX2_addBridge_29 hF]
  · rw [if_pos (b01_neg h1), bX2_addBridge_29 hF]
/-- a bridge more in the Fort at f -/
def cBr (g : Hp) (f : Nat) (a b kd dn : Int) : Hp := up (up (if dn = 0 then up (up (up (up g (f + 8) (g f 1) a) (f + 9) (g f 1) b) (f + 10) (g f 1) kd) (f + 11) (g f 1) 0 else up (up (up (up (up g (f + 8) (g f 1) a) (f + 9) (g f 1) b) (f + 10) (g f 1) kd) (f + 11) (g f 1) 0) f 6 (bOr (g f 6) (bShl 1 (g f 1)))) (f + 17) 1 0) f 1 (g f 1 + 1)
theorem c_addBridge_ok {f : Nat} (hF : isFort f) (g : Hp) (a b kd dn : Int) (h : okBr a b kd) (hk : 0 ≤ g f 1 ∧ g f 1 ≤ 5) : EV 9 qX2_addBridge 0 [vR f, vI a, vI b, vI kd, vI dn] [] g = if g f 1 = 5 then some (some (vI (-4)), g) else some (some (vI (g f 1)), cBr g f a b kd dn) := by
  obtain ⟨h1, h2, h3, h4⟩ := h
  rw [bX2_addBridge_0 hF, c_isRoom, bnd_some]
  show EV 9 qX2_addBridge 4 _ [vI _] g = _
  rw [bX2_addBridge_4 hF, if_neg (b01_pos h1), bX2_addBridge_7 hF, c_isRoom, bnd_some]
  show EV 9 qX2_addBridge 11 _ [vI _] g = _
  rw [bX2_addBridge_11 hF, if_neg (b01_pos h2), bX2_addBridge_14 hF, if_neg h3, bX2_addBridge_19 hF, if_neg (by omega), bX2_addBridge_23 hF, if_pos (by omega), bX2_addBridge_32 hF, bX2_addBridge_40 hF]
  by_cases h5 : g f 1 = 5
  · rw [if_pos h5, if_pos h5]
  · rw [if_neg h5, if_neg h5, bX2_addBridge_43 hF _ _ _ _ _ (by omega) (by omega) (by omega) (by omega)]
    unfold cBr
    by_cases hd : dn = 0
    · rw [if_pos hd, if_pos hd, bX2_addBridge_103 hF, bX6_forget_0 hF, bnd_some]
      show EV 9 qX2_addBridge 110 _ [] _ = _
      have e1 : ∀ v, up (up (up (up (up g (f + 8) (g f 1) a) (f + 9) (g f 1) b) (f + 10) (g f 1) kd) (f + 11) (g f 1) 0) (f + 17) 1 v f 1 = g f 1 := fun v => by
        rw [up_ne (by omega), up_ne (by omega), up_ne (by omega), up_ne (by omega), up_ne (by omega)]
      rw [bX2_addBridge_110 hF _ _ _ _ _ (by rw [e1]; omega), e1]
    · rw [if_neg hd, if_neg hd, bX2_addBridge_88 hF, bX2_addBridge_103 hF, bX6_forget_0 hF, bnd_some]
      show EV 9 qX2_addBridge 110 _ [] _ = _
      have e0 : ∀ i, up (up (up (up g (f + 8) (g f 1) a) (f + 9) (g f 1) b) (f + 10) (g f 1) kd) (f + 11) (g f 1) 0 f i = g f i := fun i => by
        rw [up_ne (by omega), up_ne (by omega), up_ne (by omega), up_ne (by omega)]
      have e1 : ∀ v w, up (up (up (up (up (up g (f + 8) (g f 1) a) (f + 9) (g f 1) b) (f + 10) (g f 1) kd) (f + 11) (g f 1) 0) f 6 w) (f + 17) 1 v f 1 = g f 1 := fun v w => by
        rw [up_ne (by omega), up_nei (by omega), e0]
      rw [bX2_addBridge_110 hF _ _ _ _ _ (by rw [e1]; omega), e1, e0, e0]
