/-! the reference's fort: telling it -/
/-- whether a bridge is tied: two chains at most, at one, other of the region -/
def tiedB (φ : Int → Int) (b : Int) : Prop := (0 < φ 22 ∧ (φ 23 = b ∨ φ 25 = b)) ∨ (1 < φ 22 ∧ (φ 24 = b ∨ φ 26 = b))
theorem tiedB_dec (φ : Int → Int) (b : Int) : tiedB φ b ∨ ¬ tiedB φ b := by unfold tiedB; omega
noncomputable def tied01 (φ : Int → Int) (b : Int) : Int := if (0 < φ 22 ∧ (φ 23 = b ∨ φ 25 = b)) ∨ (1 < φ 22 ∧ (φ 24 = b ∨ φ 26 = b)) then 1 else 0
/-- the region of w at r -/
def rg (g : Hp) (r : Int) : Int → Int := fun k => g 87 (r + k)
theorem e_isTied_it (g : Hp) (r b is c : Int) (hr : 0 ≤ r ∧ r + 110 ≤ 440) (hc : 0 ≤ c ∧ c < 2) (hlt : c < g 87 (r + 22)) (h01 : is = 0 ∨ is = 1) : EV 8 qX12_isTied 5 [vR 86, vI r, vI b, vI is, vI c] [] g = EV 8 qX12_isTied 5 [vR 86, vI r, vI b, vI (if is = 1 ∨ g 87 (r + 23 + c) = b ∨ g 87 (r + 25 + c) = b then 1 else 0), vI (c + 1)] [] g := by
  rw [bX12_isTied_5 _ _ _ _ _ (by omega) (by omega), if_neg (by omega), bX12_isTied_19]
  by_cases h1 : is = 0
  · rw [if_pos h1, bX12_isTied_23 _ _ _ _ _ (by omega) (by omega) (by omega)]
    by_cases h2 : g 87 (r + 23 + c) = b
    · rw [if_pos h2, bX12_isTied_55, bX12_isTied_60 _ _ _ _ _ _ (by omega), if_pos (Or.inr (Or.inl h2))]
    · rw [if_neg h2, bX12_isTied_39 _ _ _ _ _ (by omega) (by omega) (by omega)]
      by_cases h3 : g 87 (r + 25 + c) = b
      · rw [if_pos h3, bX12_isTied_55, bX12_isTied_60 _ _ _ _ _ _ (by omega), if_pos (Or.inr (Or.inr h3))]
      · rw [if_neg h3, bX12_isTied_59, bX12_isTied_60 _ _ _ _ _ _ (by omega), if_neg (by omega)]
  · rw [if_neg h1, bX12_isTied_55, bX12_isTied_60 _ _ _ _ _ _ (by omega), if_pos (Or.inl (by omega))]
theorem e_isTied_end (g : Hp) (r b is c : Int) (hr : 0 ≤ r ∧ r + 110 ≤ 440) (hge : g 87 (r + 22) ≤ c) (h01 : is = 0 ∨ is = 1) : EV 8 qX12_isTied 5 [vR 86, vI r, vI b, vI is, vI c] [] g = some (some (vI is), g) := by
  rw [bX12_isTied_5 _ _ _ _ _ (by omega) (by omega), if_pos hge, bX12_isTied_67 _ _ _ _ _ h01]
theorem ite01 (c : Prop) [Decidable c] : (if c then (1 : Int) else 0) = 0 ∨ (if c then (1 : Int) else 0) = 1 := by split <;> simp
theorem b_iff {c d : Prop} [Decidable c] [Decidable d] (h : c ↔ d) : (if c then (1 : Int) else 0) = if d then 1 else 0 := by
  by_cases hc : c
  · rw [if_pos hc, if_pos (h.mp hc)]
  · rw [if_neg hc, if_neg (fun z => hc (h.mpr z))]
theorem ans_eq {x y : Int} {g : Hp} (h : x = y) : (some (some (vI x), g) : Option (Option SV × Hp)) = some (some (vI y), g) := by rw [h]
theorem ite1 {c : Prop} [Decidable c] : ((if c then (1 : Int) else 0) = 1) ↔ c := by split <;> simp_all
theorem e_isTied (g : Hp) (r b : Int) (hr : 0 ≤ r ∧ r + 110 ≤ 440) (hn : 0 ≤ g 87 (r + 22) ∧ g 87 (r + 22) ≤ 2) : EV 8 qX12_isTied 0 [vR 86, vI r, vI b, vU, vU] [] g = some (some (vI (tied01 (rg g r) b)), g) := by
  rw [bX12_isTied_0]
  have e3 : r + 23 + 0 = r + 23 := by omega
  have e5 : r + 25 + 0 = r + 25 := by omega
  have e4 : r + 23 + 1 = r + 24 := by omega
  have e6 : r + 25 + 1 = r + 26 := by omega
  rcases (by omega : g 87 (r + 22) = 0 ∨ g 87 (r + 22) = 1 ∨ g 87 (r + 22) = 2) with h | h | h
  · rw [e_isTied_end _ _ _ _ _ hr (by omega) (Or.inl rfl)]
    unfold tied01 rg
    rw [if_neg (by omega)]
  · rw [e_isTied_it _ _ _ _ _ hr (by omega) (by omega) (Or.inl rfl), e_isTied_end _ _ _ _ _ hr (by omega) (ite01 _)]
    unfold tied01 rg
    rw [e3, e5]
    exact ans_eq (b_iff (by omega))
  · rw [e_isTied_it _ _ _ _ _ hr (by omega) (by omega) (Or.inl rfl), show (0 : Int) + 1 = 1 from rfl, e_isTied_it _ _ _ _ _ hr (by omega) (by omega) (ite01 _), e_isTied_end _ _ _ _ _ hr (by omega) (ite01 _)]
    unfold tied01 rg
    rw [e3, e5, e4, e6]
    exact ans_eq (b_iff (by rw [ite1]; omega))
theorem b01_pos {c : Prop} [Decidable c] (h : c) : ¬ b01 c = 0 := by rw [b01_eq0]; exact fun z => z h
theorem b01_neg {c : Prop} [Decidable c] (h : ¬ c) : b01 c = 0 := by rw [b01_eq0]; exact h
def okBr (a b kd : Int) : Prop := (0 ≤ a ∧ a ≤ 4) ∧ (0 ≤ b ∧ b ≤ 4) ∧ a ≠ b ∧ (0 ≤ kd ∧ kd ≤ 5)
/-- a bridge more in the region at r -/
def hBr (g : Hp) (r a b kd dn : Int) : Hp := up (up (up (up (up (up (up g 87 (r + 1 + g 87 r) a) 87 (r + 6 + g 87 r) b) 87 (r + 11 + g 87 r) kd) 87 (r + 16 + g 87 r) 0) 87 (r + 21) (bOr (g 87 (r + 21)) (if dn = 0 then 0 else bShl 1 (g 87 r)))) 87 r (g 87 r + 1)) 87 (r + 36) 0
theorem e_addBridge_bad (g : Hp) (r a b kd dn : Int) (h : ¬ okBr a b kd) : EV 9 qX12_addBridge 0 [vR 86, vI r, vI a, vI b, vI kd, vI dn, vU] [] g = some (some (vI (-2)), g) := by
  unfold okBr at h
  rw [bX12_addBridge_0, e_in, bnd_some]
  show EV 9 qX12_addBridge 9 _ [vI _] g = _
  rw [bX12_addBridge_9]
  by_cases h1 : 0 ≤ a ∧ a ≤ 4
  · rw [if_neg (b01_pos h1), bX12_addBridge_12, e_in, bnd_some]
    show EV 9 qX12_addBridge 21 _ [vI _] g = _
    rw [bX12_addBridge_21]
    by_cases h2 : 0 ≤ b ∧ b ≤ 4
    · rw [if_neg (b01_pos h2), bX12_addBridge_24]
      by_cases h3 : a = b
      · rw [if_pos h3, bX12_addBridge_42]
      · rw [if_neg h3, bX12_addBridge_29, e_in, bnd_some]
        show EV 9 qX12_addBridge 39 _ [vI _] g = _
        rw [bX12_addBridge_39, if_pos (b01_neg (fun h4 => h ⟨h1, h2, h3, h4⟩)), bX12_addBridge_42]
    · rw [if_pos (b01_neg h2), bX12_addBridge_42]
  · rw [if_pos (b01_neg h1), bX12_addBridge_42]
theorem e_addBridge_ok (g : Hp) (r a b kd dn : Int) (h : okBr a b kd) (hr : 0 ≤ r ∧ r + 110 ≤ 440) : EV 9 qX12_addBridge 0 [vR 86, vI r, vI a, vI b, vI kd, vI dn, vU] [] g = if g 87 r = 5 then some (some (vI (-4)), g) else EV 9 qX12_addBridge 64 [vR 86, vI r, vI a, vI b, vI kd, vI dn, vI (g 87 r)] [] g := by
  obtain ⟨h1, h2, h3, h4⟩ := h
  rw [bX12_addBridge_0, e_in, bnd_some]
  show EV 9 qX12_addBridge 9 _ [vI _] g = _
  rw [bX12_addBridge_9, if_neg (b01_pos h1), bX12_addBridge_12, e_in, bnd_some]
  show EV 9 qX12_addBridge 21 _ [vI _] g = _
  rw [bX12_addBridge_21, if_neg (b01_pos h2), bX12_addBridge_24, if_neg h3, bX12_addBridge_29, e_in, bnd_some]
  show EV 9 qX12_addBridge 39 _ [vI _] g = _
  rw [bX12_addBridge_39, if_neg (b01_pos h4), bX12_addBridge_45 _ _ _ _ _ _ (by omega) (by omega), bX12_addBridge_61]
  simp only [Int.add_zero]
theorem e_addBridge (g : Hp) (r a b kd dn : Int) (hr : 0 ≤ r ∧ r + 110 ≤ 440) (hk : 0 ≤ g 87 r ∧ g 87 r ≤ 5) (h : okBr a b kd) (h5 : ¬ g 87 r = 5) : EV 9 qX12_addBridge 0 [vR 86, vI r, vI a, vI b, vI kd, vI dn, vU] [] g = some (some (vI (g 87 r)), hBr g r a b kd dn) := by
  rw [e_addBridge_ok _ _ _ _ _ _ h hr, if_neg h5, bX12_addBridge_64 _ _ _ _ _ _ _ (by omega) (by omega) (by omega) (by omega) (by omega) (by omega) (by omega) (by omega) (by omega) (by omega) (by omega) (by omega) (by omega) (by omega)]
  generalize hk0 : g 87 r = k at *
  have e21 : up (up (up (up g 87 (r + 1 + k) a) 87 (r + 6 + k) b) 87 (r + 11 + k) kd) 87 (r + 16 + k) 0 87 (r + 21) = g 87 (r + 21) := by
    rw [up_nei (by omega), up_nei (by omega), up_nei (by omega), up_nei (by omega)]
  have er : ∀ v, up (up (up (up (up g 87 (r + 1 + k) a) 87 (r + 6 + k) b) 87 (r + 11 + k) kd) 87 (r + 16 + k) 0) 87 (r + 21) v 87 r = k := fun v => by
    rw [up_nei (by omega), up_nei (by omega), up_nei (by omega), up_nei (by omega), up_nei (by omega), hk0]
  rw [e21]
  unfold hBr
  rw [hk0]
  by_cases hd : dn = 0
  · rw [if_pos hd, bX12_addBridge_138, bX12_addBridge_139 _ _ _ _ _ _ _ _ _ _ (by omega) (by omega) (by omega) (by rw [Int.add_zero, er]; omega) (by omega) (by omega) (by omega)]
    rw [Int.add_zero, er, if_pos hd]
  · rw [if_neg hd, bX12_addBridge_131, bX12_addBridge_139 _ _ _ _ _ _ _ _ _ _ (by omega) (by omega) (by omega) (by rw [Int.add_zero, er]; omega) (by omega) (by omega) (by omega)]
    rw [Int.add_zero, er, if_neg hd]
theorem e_setLoad_bad (g : Hp) (r b v : Int) (hr : 0 ≤ r ∧ r + 110 ≤ 440) (hk : 0 ≤ g 87 r ∧ g 87 r ≤ 5) (h : ¬ ((0 ≤ b ∧ b ≤ g 87 r - 1) ∧ (0 ≤ v ∧ v ≤ 20))) : EV 10 qX12_setLoad 0 [vR 86, vI r, vI b, vI v, vU] [] g = some (some (vI (-2)), g) := by
  rw [bX12_setLoad_0, e_isBridge _ _ _ (by omega) hk, bnd_some]
  show EV 10 qX12_setLoad 6 _ [vI _] g = _
  rw [bX12_setLoad_6]
  by_cases h1 : 0 ≤ b ∧ b ≤ g 87 r - 1
  · rw [if_neg (b01_pos h1), bX12_setLoad_9, e_in, bnd_some]
    show EV 10 qX12_setLoad 18 _ [vI _] g = _
    rw [bX12_setLoad_18, if_pos (b01_neg (fun h2 => h ⟨h1, h2⟩)), bX12_setLoad_21]
  · rw [if_pos (b01_neg h1), bX12_setLoad_21]
theorem e_setLoad (g : Hp) (r b v : Int) (hr : 0 ≤ r ∧ r + 110 ≤ 440) (hk : 0 ≤ g 87 r ∧ g 87 r ≤ 5) (h1 : 0 ≤ b ∧ b ≤ g 87 r - 1) (h2 : 0 ≤ v ∧ v ≤ 20) : EV 10 qX12_setLoad 0 [vR 86, vI r, vI b, vI v, vU] [] g = some (some (vI (g 87 (r + 16 + b))), up g 87 (r + 16 + b) v) := by
  rw [bX12_setLoad_0, e_isBridge _ _ _ (by omega) hk, bnd_some]
  show EV 10 qX12_setLoad 6 _ [vI _] g = _
  rw [bX12_setLoad_6, if_neg (b01_pos h1), bX12_setLoad_9, e_in, bnd_some]
  show EV 10 qX12_setLoad 18 _ [vI _] g = _
  rw [bX12_setLoad_18, if_neg (b01_pos h2), bX12_setLoad_24 _ _ _ _ (by omega) (by omega) (by omega) (by omega) (by omega) (by omega)]
def hOne (g : Hp) (r v room : Int) : Hp := up (up (up (up g 87 (r + 30 + g 87 (r + 29)) v) 87 (r + 33 + g 87 (r + 29)) room) 87 (r + 29) (g 87 (r + 29) + 1)) 87 (r + 36) 0
theorem e_addOne_bad (g : Hp) (r v room : Int) (h : ¬ ((1 ≤ v ∧ v ≤ 9) ∧ (0 ≤ room ∧ room ≤ 4))) : EV 9 qX12_addOne 0 [vR 86, vI r, vI v, vI room, vU] [] g = some (some (vI (-2)), g) := by
  rw [bX12_addOne_0, e_in, bnd_some]
  show EV 9 qX12_addOne 9 _ [vI _] g = _
  rw [bX12_addOne_9]
  by_cases h1 : 1 ≤ v ∧ v ≤ 9
  · rw [if_neg (b01_pos h1), bX12_addOne_12, e_in, bnd_some]
    show EV 9 qX12_addOne 21 _ [vI _] g = _
    rw [bX12_addOne_21, if_pos (b01_neg (fun h2 => h ⟨h1, h2⟩)), bX12_addOne_24]
  · rw [if_pos (b01_neg h1), bX12_addOne_24]
theorem e_addOne_ok (g : Hp) (r v room : Int) (hr : 0 ≤ r ∧ r + 110 ≤ 440) (h1 : 1 ≤ v ∧ v ≤ 9) (h2 : 0 ≤ room ∧ room ≤ 4) : EV 9 qX12_addOne 0 [vR 86, vI r, vI v, vI room, vU] [] g = if g 87 (r + 29) = 3 then some (some (vI (-4)), g) else EV 9 qX12_addOne 47 [vR 86, vI r, vI v, vI room, vI (g 87 (r + 29))] [] g := by
  rw [bX12_addOne_0, e_in, bnd_some]
  show EV 9 qX12_addOne 9 _ [vI _] g = _
  rw [bX12_addOne_9, if_neg (b01_pos h1), bX12_addOne_12, e_in, bnd_some]
  show EV 9 qX12_addOne 21 _ [vI _] g = _
  rw [bX12_addOne_21, if_neg (b01_pos h2), bX12_addOne_27 _ _ _ _ (by omega) (by omega), bX12_addOne_44]
theorem e_addOne (g : Hp) (r v room : Int) (hr : 0 ≤ r ∧ r + 110 ≤ 440) (hk : 0 ≤ g 87 (r + 29) ∧ g 87 (r + 29) ≤ 3) (h1 : 1 ≤ v ∧ v ≤ 9) (h2 : 0 ≤ room ∧ room ≤ 4) (h3 : ¬ g 87 (r + 29) = 3) : EV 9 qX12_addOne 0 [vR 86, vI r, vI v, vI room, vU] [] g = some (some (vI (g 87 (r + 29))), hOne g r v room) := by
  have e9 : up (up g 87 (r + 30 + g 87 (r + 29)) v) 87 (r + 33 + g 87 (r + 29)) room 87 (r + 29) = g 87 (r + 29) := by
    rw [up_nei (by omega), up_nei (by omega)]
  rw [e_addOne_ok _ _ _ _ hr h1 h2, if_neg h3, bX12_addOne_47 _ _ _ _ _ (by omega) (by omega) (by omega) (by omega) (by omega) (by omega) (by omega) (by omega) (by rw [e9]; omega) (by omega) (by omega) (by omega), e9]
  rfl
def hCh (g : Hp) (r a b v : Int) : Hp := up (up (up (up (up g 87 (r + 23 + g 87 (r + 22)) a) 87 (r + 25 + g 87 (r + 22)) b) 87 (r + 27 + g 87 (r + 22)) v) 87 (r + 22) (g 87 (r + 22) + 1)) 87 (r + 36) 0
theorem tied01_or (φ : Int → Int) (b : Int) : tied01 φ b = 0 ∨ tied01 φ b = 1 := by unfold tied01; exact ite01 _
theorem e_addChain_bad (g : Hp) (r a b v : Int) (hr : 0 ≤ r ∧ r + 110 ≤ 440) (hk : 0 ≤ g 87 r ∧ g 87 r ≤ 5) (h : ¬ ((0 ≤ a ∧ a ≤ g 87 r - 1) ∧ (0 ≤ b ∧ b ≤ g 87 r - 1) ∧ a ≠ b ∧ (0 ≤ v ∧ v ≤ 9))) : EV 10 qX12_addChain 0 [vR 86, vI r, vI a, vI b, vI v, vU] [] g = some (some (vI (-2)), g) := by
  rw [bX12_addChain_0, e_isBridge _ _ _ (by omega) hk, bnd_some]
  show EV 10 qX12_addChain 6 _ [vI _] g = _
  rw [bX12_addChain_6]
  by_cases h1 : 0 ≤ a ∧ a ≤ g 87 r - 1
  · rw [if_neg (b01_pos h1), bX12_addChain_9, e_isBridge _ _ _ (by omega) hk, bnd_some]
    show EV 10 qX12_addChain 15 _ [vI _] g = _
    rw [bX12_addChain_15]
    by_cases h2 : 0 ≤ b ∧ b ≤ g 87 r - 1
    · rw [if_neg (b01_pos h2), bX12_addChain_18]
      by_cases h3 : a = b
      · rw [if_pos h3, bX12_addChain_36]
      · rw [if_neg h3, bX12_addChain_23, e_in, bnd_some]
        show EV 10 qX12_addChain 33 _ [vI _] g = _
        rw [bX12_addChain_33, if_pos (b01_neg (fun h4 => h ⟨h1, h2, h3, h4⟩)), bX12_addChain_36]
    · rw [if_pos (b01_neg h2), bX12_addChain_36]
  · rw [if_pos (b01_neg h1), bX12_addChain_36]
theorem e_addChain_ok (g : Hp) (r a b v : Int) (hr : 0 ≤ r ∧ r + 110 ≤ 440) (hk : 0 ≤ g 87 r ∧ g 87 r ≤ 5) (hn : 0 ≤ g 87 (r + 22) ∧ g 87 (r + 22) ≤ 2) (h : (0 ≤ a ∧ a ≤ g 87 r - 1) ∧ (0 ≤ b ∧ b ≤ g 87 r - 1) ∧ a ≠ b ∧ (0 ≤ v ∧ v ≤ 9)) : EV 10 qX12_addChain 0 [vR 86, vI r, vI a, vI b, vI v, vU] [] g = if tied01 (rg g r) a = 0 then (if tied01 (rg g r) b = 0 then (if g 87 (r + 22) = 2 then some (some (vI (-4)), g) else some (some (vI (g 87 (r + 22))), hCh g r a b v)) else some (some (vI (-3)), g)) else some (some (vI (-3)), g) := by
  obtain ⟨h1, h2, h3, h4⟩ := h
  rw [bX12_addChain_0, e_isBridge _ _ _ (by omega) hk, bnd_some]
  show EV 10 qX12_addChain 6 _ [vI _] g = _
  rw [bX12_addChain_6, if_neg (b01_pos h1), bX12_addChain_9, e_isBridge _ _ _ (by omega) hk, bnd_some]
  show EV 10 qX12_addChain 15 _ [vI _] g = _
  rw [bX12_addChain_15, if_neg (b01_pos h2), bX12_addChain_18, if_neg h3, bX12_addChain_23, e_in, bnd_some]
  show EV 10 qX12_addChain 33 _ [vI _] g = _
  rw [bX12_addChain_33, if_neg (b01_pos h4), bX12_addChain_39, e_isTied _ _ _ hr hn, bnd_some]
  show EV 10 qX12_addChain 45 _ [vI _] g = _
  rw [bX12_addChain_45, bX12_addChain_57, bX12_addChain_48, e_isTied _ _ _ hr hn, bnd_some]
  have e54 : EV 10 qX12_addChain 54 [vR 86, vI r, vI a, vI b, vI v, vU] ((some (vI (tied01 (rg g r) b))).toList ++ []) g = if tied01 (rg g r) b = 0 then (if g 87 (r + 22) = 2 then some (some (vI (-4)), g) else some (some (vI (g 87 (r + 22))), hCh g r a b v)) else some (some (vI (-3)), g) := by
    show EV 10 qX12_addChain 54 _ [vI _] g = _
    have e9 : up (up (up g 87 (r + 23 + g 87 (r + 22)) a) 87 (r + 25 + g 87 (r + 22)) b) 87 (r + 27 + g 87 (r + 22)) v 87 (r + 22) = g 87 (r + 22) := by
      rw [up_nei (by omega), up_nei (by omega), up_nei (by omega)]
    rw [bX12_addChain_54, bX12_addChain_57, bX12_addChain_60 _ _ _ _ _ (by omega) (by omega), bX12_addChain_77, bX12_addChain_80 _ _ _ _ _ _ (by omega) (by omega) (by omega) (by omega) (by omega) (by omega) (by omega) (by omega) (by omega) (by omega) (by omega) (by rw [e9]; omega) (by omega) (by omega) (by omega), e9]
    rfl
  rw [e54]
