/-! the class's fort: telling it -/
theorem c_isRoom (g : Hp) (a : Int) : EV 8 qX11_isRoom 0 [vI a] [] g = some (some (vI (b01 (0 ≤ a ∧ a ≤ 4))), g) := by
  rw [bX11_isRoom_0]
  by_cases h1 : a < 0
  · rw [if_pos h1, bX11_isRoom_13, bX11_isRoom_14 _ _ _ (Or.inl rfl)]
    unfold b01
    rw [if_neg (by omega)]
  · rw [if_neg h1, bX11_isRoom_4]
    by_cases h2 : 5 ≤ a
    · rw [if_pos h2, bX11_isRoom_13, bX11_isRoom_14 _ _ _ (Or.inl rfl)]
      unfold b01
      rw [if_neg (by omega)]
    · rw [if_neg h2, bX11_isRoom_9, bX11_isRoom_14 _ _ _ (Or.inr rfl)]
      unfold b01
      rw [if_pos (by omega)]
theorem c_isBridge {f : Nat} (hF : isFort f) (g : Hp) (b : Int) : EV 8 qX2_isBridge 0 [vR f, vI b] [] g = some (some (vI (b01 (0 ≤ b ∧ b ≤ g f 1 - 1))), g) := by
  rw [bX2_isBridge_0 hF]
  by_cases h1 : b < 0
  · rw [if_pos h1, bX2_isBridge_16 hF, bX2_isBridge_17 hF _ _ _ (Or.inl rfl)]
    unfold b01
    rw [if_neg (by omega)]
  · rw [if_neg h1, bX2_isBridge_4 hF]
    by_cases h2 : g f 1 ≤ b
    · rw [if_pos h2, bX2_isBridge_16 hF, bX2_isBridge_17 hF _ _ _ (Or.inl rfl)]
      unfold b01
      rw [if_neg (by omega)]
    · rw [if_neg h2, bX2_isBridge_12 hF, bX2_isBridge_17 hF _ _ _ (Or.inr rfl)]
      unfold b01
      rw [if_pos (by omega)]
theorem c_addBridge_bad {f : Nat} (hF : isFort f) (g : Hp) (a b kd dn : Int) (h : ¬ okBr a b kd) : EV 9 qX2_addBridge 0 [vR f, vI a, vI b, vI kd, vI dn] [] g = some (some (vI (-2)), g) := by
  unfold okBr at h
  rw [bX2_addBridge_0 hF, c_isRoom, bnd_some]
  show EV 9 qX2_addBridge 4 _ [vI _] g = _
  rw [bX2_addBridge_4 hF]
  by_cases h1 : 0 ≤ a ∧ a ≤ 4
  · rw [if_neg (b01_pos h1), bX2_addBridge_7 hF, c_isRoom, bnd_some]
    show EV 9 qX2_addBridge 11 _ [vI _] g = _
    rw [bX2_addBridge_11 hF]
    by_cases h2 : 0 ≤ b ∧ b ≤ 4
    · rw [if_neg (b01_pos h2), bX2_addBridge_14 hF]
      by_cases h3 : a = b
      · rw [if_pos h3, bX2_addBridge_29 hF]
      · rw [if_neg h3, bX2_addBridge_19 hF]
        by_cases h4 : kd < 0
        · rw [if_pos h4, bX2_addBridge_29 hF]
        · rw [if_neg h4, bX2_addBridge_23 hF, if_neg (fun h5 => h ⟨h1, h2, h3, by omega, by omega⟩), bX2_addBridge_29 hF]
    · rw [if_pos (b01_neg h2), bX2_addBridge_29 hF]
  · rw [if_pos (b01_neg h1), bX2_addBridge_29 hF]
/-- a bridge more in the Fort at f -/
def cBr (g : Hp) (f : Nat) (a b kd dn : Int) : Hp := up (up (if dn = 0 then up (up (up (up g (f + 8) (g f 1) a) (f + 9) (g f 1) b) (f + 10) (g f 1) kd) (f + 11) (g f 1) 0 else up (up (up (up (up g (f + 8) (g f 1) a) (f + 9) (g f 1) b) (f + 10) (g f 1) kd) (f + 11) (g f 1) 0) f 6 (bOr (g f 6) (bShl 1 (g f 1)))) (f + 17) 1 0) f 1 (g f 1 + 1)
theorem c_addBridge_ok {f : Nat} (hF : isFort f) (g : Hp) (a b kd dn : Int) (h : okBr a b kd) (hk : 0 ≤ g f 1 ∧ g f 1 ≤ 5) : EV 9 qX2_addBridge 0 [vR f, vI a, vI b, vI kd, vI dn] [] g = if g f 1 = 5 then some (some (vI (-4)), g) else some (some (vI (g f 1)), cBr g f a b kd dn) := by
  obtain ⟨h1, h2, h3, h4⟩ := h
  rw [bX2_addBridge_0 hF, c_isRoom, bnd_some]
  show EV 9 qX2_addBridge 4 _ [vI _] g = _
  rw [bX2_addBridge_4 hF, if_neg (b01_pos h1), bX2_addBridge_7 hF, c_isRoom, bnd_some]
  show EV 9 qX2_addBridge 11 _ [vI _] g = _
  rw [bX2_addBridge_11 hF, if_neg (b01_pos h2), bX2_addBridge_14 hF, if_neg h3, bX2_addBridge_19 hF, if_neg (by omega), bX2_addBridge_23 hF, if_pos (by omega), bX2_addBridge_32 hF, bX2_addBridge_40 hF]
  by_cases h5 : g f 1 = 5
  · rw [if_pos h5, if_pos h5]
  · rw [if_neg h5, if_neg h5, bX2_addBridge_43 hF _ _ _ _ _ (by omega) (by omega) (by omega) (by omega)]
    unfold cBr
    by_cases hd : dn = 0
    · rw [if_pos hd, if_pos hd, bX2_addBridge_103 hF, bX6_forget_0 hF, bnd_some]
      show EV 9 qX2_addBridge 110 _ [] _ = _
      have e1 : ∀ v, up (up (up (up (up g (f + 8) (g f 1) a) (f + 9) (g f 1) b) (f + 10) (g f 1) kd) (f + 11) (g f 1) 0) (f + 17) 1 v f 1 = g f 1 := fun v => by
        rw [up_ne (by omega), up_ne (by omega), up_ne (by omega), up_ne (by omega), up_ne (by omega)]
      rw [bX2_addBridge_110 hF _ _ _ _ _ (by rw [e1]; omega), e1]
    · rw [if_neg hd, if_neg hd, bX2_addBridge_88 hF, bX2_addBridge_103 hF, bX6_forget_0 hF, bnd_some]
      show EV 9 qX2_addBridge 110 _ [] _ = _
      have e0 : ∀ i, up (up (up (up g (f + 8) (g f 1) a) (f + 9) (g f 1) b) (f + 10) (g f 1) kd) (f + 11) (g f 1) 0 f i = g f i := fun i => by
        rw [up_ne (by omega), up_ne (by omega), up_ne (by omega), up_ne (by omega)]
      have e1 : ∀ v w, up (up (up (up (up (up g (f + 8) (g f 1) a) (f + 9) (g f 1) b) (f + 10) (g f 1) kd) (f + 11) (g f 1) 0) f 6 w) (f + 17) 1 v f 1 = g f 1 := fun v w => by
        rw [up_ne (by omega), up_nei (by omega), e0]
      rw [bX2_addBridge_110 hF _ _ _ _ _ (by rw [e1]; omega), e1, e0, e0]
def cTied (g : Hp) (f : Nat) (b : Int) : Int := if (0 < g f 7 ∧ (g (f + 12) 0 = b ∨ g (f + 13) 0 = b)) ∨ (1 < g f 7 ∧ (g (f + 12) 1 = b ∨ g (f + 13) 1 = b)) then 1 else 0
theorem c_isTied_it {f : Nat} (hF : isFort f) (g : Hp) (b c : Int) (hc : 0 ≤ c ∧ c < 2) (hlt : c < g f 7) : EV 8 qX2_isTied 2 [vR f, vI b, vI c] [] g = if g (f + 12) c = b ∨ g (f + 13) c = b then some (some (vI 1), g) else EV 8 qX2_isTied 2 [vR f, vI b, vI (c + 1)] [] g := by
  rw [bX2_isTied_2 hF, if_neg (by omega), bX2_isTied_10 hF _ _ _ hc]
  by_cases h1 : g (f + 12) c = b
  · rw [if_pos h1, if_pos (Or.inl h1), bX2_isTied_30 hF]
  · rw [if_neg h1, bX2_isTied_20 hF _ _ _ hc]
    by_cases h2 : g (f + 13) c = b
    · rw [if_pos h2, if_pos (Or.inr h2), bX2_isTied_30 hF]
    · rw [if_neg h2, if_neg (by omega), bX2_isTied_32 hF _ _ _ (by omega)]
theorem c_isTied_end {f : Nat} (hF : isFort f) (g : Hp) (b c : Int) (h : g f 7 ≤ c) : EV 8 qX2_isTied 2 [vR f, vI b, vI c] [] g = some (some (vI 0), g) := by
  rw [bX2_isTied_2 hF, if_pos h, bX2_isTied_38 hF]
theorem c_isTied {f : Nat} (hF : isFort f) (g : Hp) (b : Int) (hn : 0 ≤ g f 7 ∧ g f 7 ≤ 2) : EV 8 qX2_isTied 0 [vR f, vI b, vU] [] g = some (some (vI (cTied g f b)), g) := by
  rw [bX2_isTied_0 hF]
  unfold cTied
  rcases (by omega : g f 7 = 0 ∨ g f 7 = 1 ∨ g f 7 = 2) with h | h | h
  · rw [c_isTied_end hF _ _ _ (by omega), if_neg (by omega)]
  · rw [c_isTied_it hF _ _ _ (by omega) (by omega), c_isTied_end hF _ _ _ (by omega)]
    by_cases h1 : g (f + 12) 0 = b ∨ g (f + 13) 0 = b
    · rw [if_pos h1, if_pos (by omega)]
    · rw [if_neg h1, if_neg (by omega)]
  · rw [c_isTied_it hF _ _ _ (by omega) (by omega), show (0 : Int) + 1 = 1 from rfl, c_isTied_it hF _ _ _ (by omega) (by omega), c_isTied_end hF _ _ _ (by omega)]
    by_cases h1 : g (f + 12) 0 = b ∨ g (f + 13) 0 = b
    · rw [if_pos h1, if_pos (by omega)]
    · rw [if_neg h1]
      by_cases h2 : g (f + 12) 1 = b ∨ g (f + 13) 1 = b
      · rw [if_pos h2, if_pos (by omega)]
      · rw [if_neg h2, if_neg (by omega)]
theorem c_setBallast_bad {f : Nat} (hF : isFort f) (g : Hp) (b v : Int) (h : ¬ ((0 ≤ b ∧ b ≤ g f 1 - 1) ∧ (0 ≤ v ∧ v ≤ 20))) : EV 9 qX2_setBallast 0 [vR f, vI b, vI v, vU] [] g = some (some (vI (-2)), g) := by
  rw [bX2_setBallast_0 hF, c_isBridge hF, bnd_some]
  show EV 9 qX2_setBallast 5 _ [vI _] g = _
  rw [bX2_setBallast_5 hF]
  by_cases h1 : 0 ≤ b ∧ b ≤ g f 1 - 1
  · rw [if_neg (b01_pos h1), bX2_setBallast_8 hF]
    by_cases h2 : v < 0
    · rw [if_pos h2, bX2_setBallast_18 hF]
    · rw [if_neg h2, bX2_setBallast_12 hF, if_neg (fun h3 => h ⟨h1, by omega, h3⟩), bX2_setBallast_18 hF]
  · rw [if_pos (b01_neg h1), bX2_setBallast_18 hF]
theorem c_setBallast {f : Nat} (hF : isFort f) (g : Hp) (b v : Int) (hk : g f 1 ≤ 5) (h1 : 0 ≤ b ∧ b ≤ g f 1 - 1) (h2 : 0 ≤ v ∧ v ≤ 20) : EV 9 qX2_setBallast 0 [vR f, vI b, vI v, vU] [] g = some (some (vI (g (f + 11) b)), up g (f + 11) b v) := by
  rw [bX2_setBallast_0 hF, c_isBridge hF, bnd_some]
  show EV 9 qX2_setBallast 5 _ [vI _] g = _
  rw [bX2_setBallast_5 hF, if_neg (b01_pos h1), bX2_setBallast_8 hF, if_neg (by omega), bX2_setBallast_12 hF, if_pos (by omega), bX2_setBallast_21 hF _ _ _ (by omega) (by omega)]
def cOne (g : Hp) (f : Nat) (v room : Int) : Hp := up (up (up (up g (f + 15) (g f 11) v) (f + 16) (g f 11) room) (f + 17) 1 0) f 11 (g f 11 + 1)
theorem c_addPerson_bad {f : Nat} (hF : isFort f) (g : Hp) (v room : Int) (h : ¬ ((1 ≤ v ∧ v ≤ 9) ∧ (0 ≤ room ∧ room ≤ 4))) : EV 9 qX2_addPerson 0 [vR f, vI v, vI room] [] g = some (some (vI (-2)), g) := by
  rw [bX2_addPerson_0 hF]
  by_cases h1 : v < 1
  · rw [if_pos h1, bX2_addPerson_18 hF]
  · rw [if_neg h1, bX2_addPerson_5 hF]
    by_cases h2 : 9 < v
    · rw [if_pos h2, bX2_addPerson_18 hF]
    · rw [if_neg h2, bX2_addPerson_11 hF, c_isRoom, bnd_some]
      show EV 9 qX2_addPerson 15 _ [vI _] g = _
      rw [bX2_addPerson_15 hF, if_pos (b01_neg (fun h3 => h ⟨by omega, h3⟩)), bX2_addPerson_18 hF]
theorem c_addPerson_ok {f : Nat} (hF : isFort f) (g : Hp) (v room : Int) (hk : 0 ≤ g f 11 ∧ g f 11 ≤ 3) (h1 : 1 ≤ v ∧ v ≤ 9) (h2 : 0 ≤ room ∧ room ≤ 4) : EV 9 qX2_addPerson 0 [vR f, vI v, vI room] [] g = if g f 11 = 3 then some (some (vI (-4)), g) else some (some (vI (g f 11)), cOne g f v room) := by
  rw [bX2_addPerson_0 hF, if_neg (by omega), bX2_addPerson_5 hF, if_neg (by omega), bX2_addPerson_11 hF, c_isRoom, bnd_some]
  show EV 9 qX2_addPerson 15 _ [vI _] g = _
  rw [bX2_addPerson_15 hF, if_neg (b01_pos h2), bX2_addPerson_21 hF, bX2_addPerson_29 hF]
  by_cases h5 : g f 11 = 3
  · rw [if_pos h5, if_pos h5]
  · rw [if_neg h5, if_neg h5, bX2_addPerson_32 hF _ _ _ (by omega) (by omega), bX6_forget_0 hF, bnd_some]
    show EV 9 qX2_addPerson 59 _ [] _ = _
    have e1 : up (up (up g (f + 15) (g f 11) v) (f + 16) (g f 11) room) (f + 17) 1 0 f 11 = g f 11 := by
      rw [up_ne (by omega), up_ne (by omega), up_ne (by omega)]
    rw [bX2_addPerson_59 hF _ _ _ (by rw [e1]; omega), e1]
    rfl
def cCh (g : Hp) (f : Nat) (a b v : Int) : Hp := up (up (up (up (up g (f + 12) (g f 7) a) (f + 13) (g f 7) b) (f + 14) (g f 7) v) (f + 17) 1 0) f 7 (g f 7 + 1)
theorem c_addChain_bad {f : Nat} (hF : isFort f) (g : Hp) (a b v : Int) (h : ¬ ((0 ≤ a ∧ a ≤ g f 1 - 1) ∧ (0 ≤ b ∧ b ≤ g f 1 - 1) ∧ a ≠ b ∧ (0 ≤ v ∧ v ≤ 9))) : EV 9 qX2_addChain 0 [vR f, vI a, vI b, vI v] [] g = some (some (vI (-2)), g) := by
  rw [bX2_addChain_0 hF, c_isBridge hF, bnd_some]
  show EV 9 qX2_addChain 5 _ [vI _] g = _
  rw [bX2_addChain_5 hF]
  by_cases h1 : 0 ≤ a ∧ a ≤ g f 1 - 1
  · rw [if_neg (b01_pos h1), bX2_addChain_8 hF, c_isBridge hF, bnd_some]
    show EV 9 qX2_addChain 13 _ [vI _] g = _
    rw [bX2_addChain_13 hF]
    by_cases h2 : 0 ≤ b ∧ b ≤ g f 1 - 1
    · rw [if_neg (b01_pos h2), bX2_addChain_16 hF]
      by_cases h3 : a = b
      · rw [if_pos h3, bX2_addChain_31 hF]
      · rw [if_neg h3, bX2_addChain_21 hF]
        by_cases h4 : v < 0
        · rw [if_pos h4, bX2_addChain_31 hF]
        · rw [if_neg h4, bX2_addChain_25 hF, if_neg (fun h5 => h ⟨h1, h2, h3, by omega, h5⟩), bX2_addChain_31 hF]
    · rw [if_pos (b01_neg h2), bX2_addChain_31 hF]
  · rw [if_pos (b01_neg h1), bX2_addChain_31 hF]
theorem c_addChain_ok {f : Nat} (hF : isFort f) (g : Hp) (a b v : Int) (hn : 0 ≤ g f 7 ∧ g f 7 ≤ 2) (h : (0 ≤ a ∧ a ≤ g f 1 - 1) ∧ (0 ≤ b ∧ b ≤ g f 1 - 1) ∧ a ≠ b ∧ (0 ≤ v ∧ v ≤ 9)) : EV 9 qX2_addChain 0 [vR f, vI a, vI b, vI v] [] g = if cTied g f a = 0 then (if cTied g f b = 0 then (if g f 7 = 2 then some (some (vI (-4)), g) else some (some (vI (g f 7)), cCh g f a b v)) else some (some (vI (-3)), g)) else some (some (vI (-3)), g) := by
  obtain ⟨h1, h2, h3, h4⟩ := h
  rw [bX2_addChain_0 hF, c_isBridge hF, bnd_some]
  show EV 9 qX2_addChain 5 _ [vI _] g = _
  rw [bX2_addChain_5 hF, if_neg (b01_pos h1), bX2_addChain_8 hF, c_isBridge hF, bnd_some]
  show EV 9 qX2_addChain 13 _ [vI _] g = _
  rw [bX2_addChain_13 hF, if_neg (b01_pos h2), bX2_addChain_16 hF, if_neg h3, bX2_addChain_21 hF, if_neg (by omega), bX2_addChain_25 hF, if_pos (by omega), bX2_addChain_34 hF, c_isTied hF _ _ hn, bnd_some]
  show EV 9 qX2_addChain 39 _ [vI _] g = _
  rw [bX2_addChain_39 hF, bX2_addChain_50 hF, bX2_addChain_42 hF, c_isTied hF _ _ hn, bnd_some]
  have e54 : EV 9 qX2_addChain 47 [vR f, vI a, vI b, vI v] ((some (vI (cTied g f b))).toList ++ []) g = if cTied g f b = 0 then (if g f 7 = 2 then some (some (vI (-4)), g) else some (some (vI (g f 7)), cCh g f a b v)) else some (some (vI (-3)), g) := by
    show EV 9 qX2_addChain 47 _ [vI _] g = _
    rw [bX2_addChain_47 hF, bX2_addChain_50 hF, bX2_addChain_53 hF, bX2_addChain_61 hF]
    by_cases h5 : g f 7 = 2
    · rw [if_pos h5, if_pos h5]
    · rw [if_neg h5, if_neg h5, bX2_addChain_64 hF _ _ _ _ (by omega) (by omega) (by omega), bX6_forget_0 hF, bnd_some]
      have e9 : up (up (up (up g (f + 12) (g f 7) a) (f + 13) (g f 7) b) (f + 14) (g f 7) v) (f + 17) 1 0 f 7 = g f 7 := by
        rw [up_ne (by omega), up_ne (by omega), up_ne (by omega), up_ne (by omega)]
      have e10 : EV 9 qX2_addChain 101 [vR f, vI a, vI b, vI v] ((none : Option SV).toList ++ []) (up (up (up (up g (f + 12) (g f 7) a) (f + 13) (g f 7) b) (f + 14) (g f 7) v) (f + 17) 1 0) = some (some (vI (g f 7)), cCh g f a b v) := by
        show EV 9 qX2_addChain 101 _ [] _ = _
        rw [bX2_addChain_101 hF _ _ _ _ (by rw [e9]; omega), e9]
        rfl
      rw [e10]
  rw [e54]
