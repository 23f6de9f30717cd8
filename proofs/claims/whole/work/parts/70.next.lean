/-! text: the class looks at the next token -/
theorem c_itemOfWord (g : Hp) (h3 : 0 ≤ g 79 3 ∧ g 79 3 ≤ g 79 4 ∧ g 79 4 ≤ 200) : EV 9 qX10_itemOfWord 0 [vR 79] [] g = some (some (vI (wdI (g 80) (g 79 3) (g 79 4))), g) := by
  unfold wdI
  rw [bX10_itemOfWord_0, c_isWord0 g h3, bnd_some]
  show EV 9 qX10_itemOfWord 6 _ [vI _] _ = _
  rw [bX10_itemOfWord_6]
  by_cases c0 : wEq (sTxt 200) (g 80) (g 79 3) (g 79 4)
  · rw [if_neg (b01_pos c0), if_pos c0, bX10_itemOfWord_9]
  rw [if_pos (b01_neg c0), if_neg c0, bX10_itemOfWord_11, c_isWord1 g h3, bnd_some]
  show EV 9 qX10_itemOfWord 17 _ [vI _] _ = _
  rw [bX10_itemOfWord_17]
  by_cases c1 : wEq (sTxt 201) (g 80) (g 79 3) (g 79 4)
  · rw [if_neg (b01_pos c1), if_pos c1, bX10_itemOfWord_20]
  rw [if_pos (b01_neg c1), if_neg c1, bX10_itemOfWord_22, c_isWord2 g h3, bnd_some]
  show EV 9 qX10_itemOfWord 28 _ [vI _] _ = _
  rw [bX10_itemOfWord_28]
  by_cases c2 : wEq (sTxt 202) (g 80) (g 79 3) (g 79 4)
  · rw [if_neg (b01_pos c2), if_pos c2, bX10_itemOfWord_31]
  rw [if_pos (b01_neg c2), if_neg c2, bX10_itemOfWord_33, c_isWord3 g h3, bnd_some]
  show EV 9 qX10_itemOfWord 39 _ [vI _] _ = _
  rw [bX10_itemOfWord_39]
  by_cases c3 : wEq (sTxt 203) (g 80) (g 79 3) (g 79 4)
  · rw [if_neg (b01_pos c3), if_pos c3, bX10_itemOfWord_42]
  rw [if_pos (b01_neg c3), if_neg c3, bX10_itemOfWord_44, c_isWord4 g h3, bnd_some]
  show EV 9 qX10_itemOfWord 50 _ [vI _] _ = _
  rw [bX10_itemOfWord_50]
  by_cases c4 : wEq (sTxt 204) (g 80) (g 79 3) (g 79 4)
  · rw [if_neg (b01_pos c4), if_pos c4, bX10_itemOfWord_53, bX10_itemOfWord_58]
  · rw [if_pos (b01_neg c4), if_neg c4, bX10_itemOfWord_57, bX10_itemOfWord_58]
theorem c_skip : ∀ (m : Nat) (g : Hp), g 79 1 ≤ 200 → 0 ≤ g 79 3 → g 79 3 + m = g 79 1 → EV 11 qX10_lookAtNext 8 [vR 79] [] g = EV 11 qX10_lookAtNext 46 [vR 79] [] (up g 79 3 (sp (g 80) (g 79 1) (g 79 3))) := by
  intro m
  induction m with
  | zero =>
    intro g hL h0 hm
    rw [bX10_lookAtNext_8, if_pos (by omega), sp_no (fun z => by have := z.1; omega), up_id rfl]
  | succ m ih =>
    intro g hL h0 hm
    rw [bX10_lookAtNext_8, if_neg (by omega), bX10_lookAtNext_19 _ (by omega)]
    by_cases c : g 80 (g 79 3) = 32
    · have e1 : up g 79 3 (g 79 3 + 1) 79 1 = g 79 1 := by rw [up_nei (by omega)]
      have e3 : up g 79 3 (g 79 3 + 1) 79 3 = g 79 3 + 1 := up_eq ..
      have e80 : up g 79 3 (g 79 3 + 1) 80 = g 80 := by funext i; rw [up_ne (by omega)]
      rw [if_pos c, bX10_lookAtNext_33 _ (by omega), ih _ (by omega) (by omega) (by omega), e1, e3, e80, up_up, sp_yes (show isS (g 80) (g 79 1) (g 79 3) from ⟨by omega, c⟩)]
    · rw [if_neg c, sp_no (fun z => c z.2), up_id rfl]
theorem c_wordEnd : ∀ (m : Nat) (g : Hp), g 79 1 ≤ 200 → 0 ≤ g 79 4 → g 79 4 + m = g 79 1 → EV 10 qX10_takeWord 0 [vR 79] [] g = EV 10 qX10_takeWord 39 [vR 79] [] (up g 79 4 (we (g 80) (g 79 1) (g 79 4))) := by
  intro m
  induction m with
  | zero =>
    intro g hL h0 hm
    rw [bX10_takeWord_0, if_pos (by omega), we_no (fun z => by have := z.1; omega), up_id rfl]
  | succ m ih =>
    intro g hL h0 hm
    rw [bX10_takeWord_0, if_neg (by omega), bX10_takeWord_11 _ (by omega), c_isLetter, bnd_some]
    show EV 10 qX10_takeWord 23 _ [vI _] _ = _
    rw [bX10_takeWord_23]
    by_cases c : 97 ≤ g 80 (g 79 4) ∧ g 80 (g 79 4) ≤ 122
    · have e1 : up g 79 4 (g 79 4 + 1) 79 1 = g 79 1 := by rw [up_nei (by omega)]
      have e3 : up g 79 4 (g 79 4 + 1) 79 4 = g 79 4 + 1 := up_eq ..
      have e80 : up g 79 4 (g 79 4 + 1) 80 = g 80 := by funext i; rw [up_ne (by omega)]
      rw [if_neg (b01_pos c), bX10_takeWord_26 _ (by omega), ih _ (by omega) (by omega) (by omega), e1, e3, e80, up_up, we_yes (show isC (g 80) (g 79 1) (g 79 4) from ⟨by omega, c⟩)]
    · rw [if_pos (b01_neg c), we_no (fun z => c z.2), up_id rfl]
theorem c_num_it {g : Hp} (hL : g 79 1 ≤ 200) (h0 : 0 ≤ g 79 4) (hd : isD (g 80) (g 79 1) (g 79 4)) (hv : 0 ≤ g 79 5 ∧ g 79 5 < 1000) (hj : 0 ≤ g 79 3 ∧ g 79 3 ≤ 200) : EV 9 qX10_takeNumber 10 [vR 79] [] g = if g 79 4 + 1 - g 79 3 ≤ 2 then EV 9 qX10_takeNumber 10 [vR 79] [] (up (up g 79 5 (10 * g 79 5 + g 80 (g 79 4) - 48)) 79 4 (g 79 4 + 1)) else EV 9 qX10_takeNumber 83 [vR 79] [] (up (up g 79 5 (10 * g 79 5 + g 80 (g 79 4) - 48)) 79 4 (g 79 4 + 1)) := by
  have h1 := hd.1
  have h2 := hd.2
  rw [bX10_takeNumber_10, if_neg (by omega), bX10_takeNumber_21 _ (by omega), c_isFigure, bnd_some]
  show EV 9 qX10_takeNumber 33 _ [vI _] _ = _
  rw [bX10_takeNumber_33, if_neg (b01_pos h2), bX10_takeNumber_36 _ (by omega) (by omega) (by omega) (by omega) (by omega) (by omega)]
theorem c_num_end {g : Hp} (hL : g 79 1 ≤ 200) (h0 : 0 ≤ g 79 4) (hd : ¬ isD (g 80) (g 79 1) (g 79 4)) : EV 9 qX10_takeNumber 10 [vR 79] [] g = some (none, g) := by
  rw [bX10_takeNumber_10]
  by_cases c : g 79 1 ≤ g 79 4
  · rw [if_pos c, bX10_takeNumber_89]
  · rw [if_neg c, bX10_takeNumber_21 _ (by omega), c_isFigure, bnd_some]
    show EV 9 qX10_takeNumber 33 _ [vI _] _ = _
    rw [bX10_takeNumber_33, if_pos (b01_neg (fun z => hd ⟨by omega, z⟩)), bX10_takeNumber_89]
/-- the token at j, told -/
def TkS (g : Hp) (b : Int → Int) (L j : Int) : Prop := g 79 1 = L ∧ g 79 2 = (tok b L j).1 ∧ g 79 3 = j ∧ g 79 4 = (tok b L j).2.2 ∧ ((tok b L j).1 = 1 ∨ (tok b L j).1 = 2 → g 79 5 = (tok b L j).2.1)
theorem c_takeNumber {g : Hp} (hL : g 79 1 ≤ 200) (h0 : 0 ≤ g 79 3) (h4 : g 79 4 = g 79 3) (hd : isD (g 80) (g 79 1) (g 79 3)) (hb : ∀ k, 0 ≤ k → k < g 79 1 → 0 ≤ g 80 k ∧ g 80 k ≤ 255) : ∃ g', EV 9 qX10_takeNumber 0 [vR 79] [] g = some (none, g') ∧ TkS g' (g 80) (g 79 1) (g 79 3) ∧ ∀ a : Nat, a ≠ 79 → g' a = g a := by
  have d1 := hd.1
  have d2 := hd.2
  have nL : ¬ g 79 3 = g 79 1 := by omega
  have nC : ¬ isC (g 80) (g 79 1) (g 79 3) := fun z => by have := z.2; omega
  rw [bX10_takeNumber_0]
  generalize hg1 : up (up g 79 5 0) 79 2 2 = g1
  have a1 : g1 79 1 = g 79 1 := by subst hg1; rw [up_nei (by omega), up_nei (by omega)]
  have a2 : g1 79 2 = 2 := by subst hg1; rw [up_eq]
  have a3 : g1 79 3 = g 79 3 := by subst hg1; rw [up_nei (by omega), up_nei (by omega)]
  have a4 : g1 79 4 = g 79 3 := by subst hg1; rw [up_nei (by omega), up_nei (by omega), h4]
  have a5 : g1 79 5 = 0 := by subst hg1; rw [up_nei (by omega), up_eq]
  have ao : ∀ a : Nat, a ≠ 79 → g1 a = g a := fun a ha => by subst hg1; funext i; rw [up_ne ha, up_ne ha]
  have a80 : g1 80 = g 80 := ao 80 (by omega)
  have i1 := c_num_it (g := g1) (by omega) (by omega) (by rw [a80, a1, a4]; exact hd) (by omega) (by omega)
  rw [a3, a4, a5, a80, if_pos (by omega)] at i1
  rw [i1]
  generalize hg2 : up (up g1 79 5 (10 * 0 + g 80 (g 79 3) - 48)) 79 4 (g 79 3 + 1) = g2
  have b1 : g2 79 1 = g 79 1 := by subst hg2; rw [up_nei (by omega), up_nei (by omega), a1]
  have b2 : g2 79 2 = 2 := by subst hg2; rw [up_nei (by omega), up_nei (by omega), a2]
  have b3 : g2 79 3 = g 79 3 := by subst hg2; rw [up_nei (by omega), up_nei (by omega), a3]
  have b4 : g2 79 4 = g 79 3 + 1 := by subst hg2; rw [up_eq]
  have b5 : g2 79 5 = g 80 (g 79 3) - 48 := by subst hg2; rw [up_nei (by omega), up_eq]; omega
  have bo : ∀ a : Nat, a ≠ 79 → g2 a = g a := fun a ha => by subst hg2; funext i; rw [up_ne ha, up_ne ha, ao a ha]
  have b80 : g2 80 = g 80 := bo 80 (by omega)
  by_cases e1 : isD (g 80) (g 79 1) (g 79 3 + 1)
  · have e11 := e1.1
    have e12 := e1.2
    have i2 := c_num_it (g := g2) (by omega) (by omega) (by rw [b80, b1, b4]; exact e1) (by omega) (by omega)
    rw [b3, b4, b5, b80, if_pos (by omega)] at i2
    rw [i2]
    generalize hg3 : up (up g2 79 5 (10 * (g 80 (g 79 3) - 48) + g 80 (g 79 3 + 1) - 48)) 79 4 (g 79 3 + 1 + 1) = g3
    have f1 : g3 79 1 = g 79 1 := by subst hg3; rw [up_nei (by omega), up_nei (by omega), b1]
    have f2 : g3 79 2 = 2 := by subst hg3; rw [up_nei (by omega), up_nei (by omega), b2]
    have f3 : g3 79 3 = g 79 3 := by subst hg3; rw [up_nei (by omega), up_nei (by omega), b3]
    have f4 : g3 79 4 = g 79 3 + 2 := by subst hg3; rw [up_eq]; omega
    have f5 : g3 79 5 = 10 * (g 80 (g 79 3) - 48) + g 80 (g 79 3 + 1) - 48 := by subst hg3; rw [up_nei (by omega), up_eq]
    have fo : ∀ a : Nat, a ≠ 79 → g3 a = g a := fun a ha => by subst hg3; funext i; rw [up_ne ha, up_ne ha, bo a ha]
    have f80 : g3 80 = g 80 := fo 80 (by omega)
    by_cases e2 : isD (g 80) (g 79 1) (g 79 3 + 2)
    · have e21 := e2.1
      have e22 := e2.2
      have i3 := c_num_it (g := g3) (by omega) (by omega) (by rw [f80, f1, f4]; exact e2) (by omega) (by omega)
      rw [f3, f4, f5, f80, if_neg (by omega)] at i3
      have ht : tok (g 80) (g 79 1) (g 79 3) = (4, 0, g 79 3 + 3) := by unfold tok; rw [if_neg nL, if_neg nC, if_pos hd, if_pos e1, if_pos e2]
      rw [i3, bX10_takeNumber_83]
      refine ⟨_, rfl, ⟨?_, ?_, ?_, ?_, ?_⟩, fun a ha => ?_⟩
      · rw [up_nei (by omega), up_nei (by omega), up_nei (by omega), f1]
      · rw [up_eq, ht]
      · rw [up_nei (by omega), up_nei (by omega), up_nei (by omega), f3]
      · rw [up_nei (by omega), up_eq, ht]
        show g 79 3 + 2 + 1 = g 79 3 + 3
        omega
      · rw [ht]
        intro z
        have z' : (4 : Int) = 1 ∨ (4 : Int) = 2 := z
        omega
      · funext i
        rw [up_ne ha, up_ne ha, up_ne ha, fo a ha]
    · have ht : tok (g 80) (g 79 1) (g 79 3) = (2, 10 * (g 80 (g 79 3) - 48) + g 80 (g 79 3 + 1) - 48, g 79 3 + 2) := by unfold tok; rw [if_neg nL, if_neg nC, if_pos hd, if_pos e1, if_neg e2]
      exact ⟨g3, c_num_end (by omega) (by omega) (by rw [f80, f1, f4]; exact e2), ⟨f1, by rw [ht]; exact f2, f3, by rw [ht]; exact f4, fun _ => by rw [ht]; exact f5⟩, fo⟩
  · have ht : tok (g 80) (g 79 1) (g 79 3) = (2, g 80 (g 79 3) - 48, g 79 3 + 1) := by unfold tok; rw [if_neg nL, if_neg nC, if_pos hd, if_neg e1]
    exact ⟨g2, c_num_end (by omega) (by omega) (by rw [b80, b1, b4]; exact e1), ⟨b1, by rw [ht]; exact b2, b3, by rw [ht]; exact b4, fun _ => by rw [ht]; exact b5⟩, bo⟩
theorem c_next {g : Hp} (hL : g 79 1 ≤ 200) (h4 : 0 ≤ g 79 4 ∧ g 79 4 ≤ g 79 1) (hb : ∀ k, 0 ≤ k → k < g 79 1 → 0 ≤ g 80 k ∧ g 80 k ≤ 255) : ∃ g', EV 11 qX10_lookAtNext 0 [vR 79] [] g = some (none, g') ∧ TkS g' (g 80) (g 79 1) (sp (g 80) (g 79 1) (g 79 4)) ∧ ∀ a : Nat, a ≠ 79 → g' a = g a := by
  obtain ⟨s1, s2⟩ := sp_all (b := g 80) (L := g 79 1) (i := g 79 4) h4.2
  have e1 : up g 79 3 (g 79 4) 79 1 = g 79 1 := by rw [up_nei (by omega)]
  have e3 : up g 79 3 (g 79 4) 79 3 = g 79 4 := up_eq ..
  have e80 : up g 79 3 (g 79 4) 80 = g 80 := by funext i; rw [up_ne (by omega)]
  rw [bX10_lookAtNext_0, c_skip (g 79 1 - g 79 4).toNat _ (by omega) (by omega) (by omega), e1, e3, e80, up_up]
  generalize hj : sp (g 80) (g 79 1) (g 79 4) = j at *
  rw [bX10_lookAtNext_46, up_eq, up_nei (show (1 : Int) ≠ 3 by omega)]
  generalize hg1 : up (up g 79 3 j) 79 4 j = g1
  have a1 : g1 79 1 = g 79 1 := by subst hg1; rw [up_nei (by omega), up_nei (by omega)]
  have a3 : g1 79 3 = j := by subst hg1; rw [up_nei (by omega), up_eq]
  have a4 : g1 79 4 = j := by subst hg1; rw [up_eq]
  have ao : ∀ a : Nat, a ≠ 79 → g1 a = g a := fun a ha => by subst hg1; funext i; rw [up_ne ha, up_ne ha]
  have a80 : g1 80 = g 80 := ao 80 (by omega)
  by_cases c0 : j = g 79 1
  · have ht : tok (g 80) (g 79 1) j = (0, 0, j) := by unfold tok; rw [if_pos c0]
    rw [if_pos c0, bX10_lookAtNext_65, bX10_lookAtNext_150]
    refine ⟨_, rfl, ⟨?_, ?_, ?_, ?_, ?_⟩, fun a ha => ?_⟩
    · rw [up_nei (by omega), a1]
    · rw [up_eq, ht]
    · rw [up_nei (by omega), a3]
    · rw [up_nei (by omega), a4, ht]
    · rw [ht]
      intro z
      have z' : (0 : Int) = 1 ∨ (0 : Int) = 2 := z
      omega
    · funext i
      rw [up_ne ha, ao a ha]
  · have hjb := hb j (by omega) (by omega)
    rw [if_neg c0, bX10_lookAtNext_73 _ (by omega), c_isLetter, bnd_some, a3, a80]
    show ∃ g', EV 11 qX10_lookAtNext 85 _ [vI _] _ = _ ∧ _
    rw [bX10_lookAtNext_85]
    by_cases c1 : 97 ≤ g 80 j ∧ g 80 j ≤ 122
    · have hC : isC (g 80) (g 79 1) j := ⟨by omega, c1⟩
      obtain ⟨w1, w2, w3⟩ := we_all (b := g 80) (L := g 79 1) (i := j) (by omega)
      have hw := c_wordEnd (g 79 1 - j).toNat g1 (by omega) (by omega) (by omega)
      rw [a80, a1, a4] at hw
      generalize he : we (g 80) (g 79 1) j = e at *
      generalize hg2 : up g1 79 4 e = g2 at *
      have b1 : g2 79 1 = g 79 1 := by subst hg2; rw [up_nei (by omega), a1]
      have b3 : g2 79 3 = j := by subst hg2; rw [up_nei (by omega), a3]
      have b4 : g2 79 4 = e := by subst hg2; rw [up_eq]
      have bo : ∀ a : Nat, a ≠ 79 → g2 a = g a := fun a ha => by subst hg2; funext i; rw [up_ne ha, ao a ha]
      have b80 : g2 80 = g 80 := bo 80 (by omega)
      have hi := c_itemOfWord g2 (by omega)
      rw [b80, b3, b4] at hi
      have ht : tok (g 80) (g 79 1) j = (if wdI (g 80) j e = -1 then 4 else 1, wdI (g 80) j e, e) := by unfold tok; rw [if_neg c0, if_pos hC, he]
      have fin : ∃ g', EV 10 qX10_takeWord 0 [vR 79] [] g1 = some (none, g') ∧ TkS g' (g 80) (g 79 1) j ∧ ∀ a : Nat, a ≠ 79 → g' a = g a := by
        rw [hw, bX10_takeWord_39, hi, bnd_some]
        show ∃ g', EV 10 qX10_takeWord 44 _ [vI _, vR 79] _ = _ ∧ _
        rw [bX10_takeWord_44]
        have key : ∀ t : Int, t = (if wdI (g 80) j e = -1 then 4 else 1) → TkS (up (up g2 79 5 (wdI (g 80) j e)) 79 2 t) (g 80) (g 79 1) j ∧ ∀ a : Nat, a ≠ 79 → up (up g2 79 5 (wdI (g 80) j e)) 79 2 t a = g a := fun t htt => by
          refine ⟨⟨?_, ?_, ?_, ?_, fun _ => ?_⟩, fun a ha => ?_⟩
          · rw [up_nei (by omega), up_nei (by omega), b1]
          · rw [up_eq, ht, htt]
          · rw [up_nei (by omega), up_nei (by omega), b3]
          · rw [up_nei (by omega), up_nei (by omega), b4, ht]
          · rw [up_nei (by omega), up_eq, ht]
          · funext i
            rw [up_ne ha, up_ne ha, bo a ha]
        by_cases c : wdI (g 80) j e = -1
        · rw [if_pos c, bX10_takeWord_56, bX10_takeWord_61]
          exact ⟨_, rfl, key 4 (by rw [if_pos c])⟩
        · rw [if_neg c, bX10_takeWord_60, bX10_takeWord_61]
          exact ⟨_, rfl, key 1 (by rw [if_neg c])⟩
      obtain ⟨g', q1, q2, q3⟩ := fin
      refine ⟨g', ?_, q2, q3⟩
      rw [if_neg (b01_pos c1), bX10_lookAtNext_88, q1, bnd_some]
      show EV 11 qX10_lookAtNext 92 _ [] _ = _
      rw [bX10_lookAtNext_92, bX10_lookAtNext_150]
    · have nC : ¬ isC (g 80) (g 79 1) j := fun z => c1 z.2
      rw [if_pos (b01_neg c1), bX10_lookAtNext_95 _ (by omega), c_isFigure, bnd_some, a3, a80]
      show ∃ g', EV 11 qX10_lookAtNext 107 _ [vI _] _ = _ ∧ _
      rw [bX10_lookAtNext_107]
      by_cases c2 : 48 ≤ g 80 j ∧ g 80 j ≤ 57
      · obtain ⟨g', q1, q2, q3⟩ := c_takeNumber (g := g1) (by omega) (by omega) (by omega) (by rw [a80, a1, a3]; exact ⟨by omega, c2⟩) (by rw [a80, a1]; exact hb)
        rw [a80, a1, a3] at q2
        refine ⟨g', ?_, q2, fun a ha => by rw [q3 a ha, ao a ha]⟩
        rw [if_neg (b01_pos c2), bX10_lookAtNext_110, q1, bnd_some]
        show EV 11 qX10_lookAtNext 114 _ [] _ = _
        rw [bX10_lookAtNext_114, bX10_lookAtNext_150]
      · have nD : ¬ isD (g 80) (g 79 1) j := fun z => c2 z.2
        have ht : tok (g 80) (g 79 1) j = (if g 80 j = 59 then 3 else 4, 0, j + 1) := by unfold tok; rw [if_neg c0, if_neg nC, if_neg nD]
        have key : ∀ t : Int, t = (if g 80 j = 59 then 3 else 4) → TkS (up (up g1 79 4 (j + 1)) 79 2 t) (g 80) (g 79 1) j ∧ ∀ a : Nat, a ≠ 79 → up (up g1 79 4 (j + 1)) 79 2 t a = g a := fun t htt => by
          refine ⟨⟨?_, ?_, ?_, ?_, fun z => ?_⟩, fun a ha => ?_⟩
          · rw [up_nei (by omega), up_nei (by omega), a1]
          · rw [up_eq, ht, htt]
          · rw [up_nei (by omega), up_nei (by omega), a3]
          · rw [up_nei (by omega), up_eq, ht]
          · rw [ht] at z
            have z' : (if g 80 j = 59 then (3 : Int) else 4) = 1 ∨ (if g 80 j = 59 then (3 : Int) else 4) = 2 := z
            split at z' <;> omega
          · funext i
            rw [up_ne ha, up_ne ha, ao a ha]
        rw [if_pos (b01_neg c2), bX10_lookAtNext_117 _ (by omega) (by omega), a3, a80, a4]
        by_cases c : g 80 j = 59
        · rw [if_pos c, bX10_lookAtNext_142, bX10_lookAtNext_147, bX10_lookAtNext_150]
          exact ⟨_, rfl, key 3 (by rw [if_pos c])⟩
        · rw [if_neg c, bX10_lookAtNext_146, bX10_lookAtNext_147, bX10_lookAtNext_150]
          exact ⟨_, rfl, key 4 (by rw [if_neg c])⟩
