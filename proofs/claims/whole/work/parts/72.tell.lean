/-! text: an item is told -/
abbrev okB (a b kd : Int) : Prop := (0 ≤ a ∧ a ≤ 4) ∧ (0 ≤ b ∧ b ≤ 4) ∧ a ≠ b ∧ (0 ≤ kd ∧ kd ≤ 5)
noncomputable def tellF (φ : Int → Int) (w : Int) (n : Int → Int) : Int × (Int → Int) :=
  if w = 0 ∨ w = 1 then (if okB (n 0) (n 1) (n 2) then (if φ 0 = 5 then (-4, φ) else (φ 0, fBr φ (n 0) (n 1) (n 2) w)) else (-2, φ)) else if w = 2 then (if (0 ≤ n 0 ∧ n 0 ≤ φ 0 - 1) ∧ (0 ≤ n 1 ∧ n 1 ≤ φ 0 - 1) ∧ n 0 ≠ n 1 ∧ (0 ≤ n 2 ∧ n 2 ≤ 9) then (if tied01 φ (n 0) = 0 then (if tied01 φ (n 1) = 0 then (if φ 22 = 2 then (-4, φ) else (φ 22, fCh φ (n 0) (n 1) (n 2))) else (-3, φ)) else (-3, φ)) else (-2, φ)) else if w = 3 then (if (1 ≤ n 0 ∧ n 0 ≤ 9) ∧ (0 ≤ n 1 ∧ n 1 ≤ 4) then (if φ 29 = 3 then (-4, φ) else (φ 29, fOne φ (n 0) (n 1))) else (-2, φ)) else (if (0 ≤ n 0 ∧ n 0 ≤ φ 0 - 1) ∧ (0 ≤ n 1 ∧ n 1 ≤ 20) then (φ (16 + n 0), fu φ (16 + n 0) (n 1)) else (-2, φ))
theorem tellF_FI {φ : Int → Int} (hI : FI φ) (w : Int) (n : Int → Int) : FI (tellF φ w n).2 := by
  unfold tellF
  split
  · split
    · next h =>
      split
      · exact hI
      · next h5 => exact FI_fBr hI h5 h
    · exact hI
  · split
    · split
      · next h =>
        split
        · next ta =>
          split
          · next tb =>
            split
            · exact hI
            · next h2 => exact FI_fCh hI h2 h.1 h.2.1 h.2.2.1 h.2.2.2 ta tb
          · exact hI
        · exact hI
      · exact hI
    · split
      · split
        · next h =>
          split
          · exact hI
          · next h3 => exact FI_fOne hI h3 h.1 h.2
        · exact hI
      · split
        · next h => exact FI_fLd hI h.1 h.2
        · exact hI
theorem c_tellBr {g : Hp} {φ : Int → Int} (hI : FI φ) (hC : ClsF g 20 φ) (a b kd dn : Int) : ∃ g', EV 9 qX2_addBridge 0 [vR 20, vI a, vI b, vI kd, vI dn] [] g = some (some (vI (if okB a b kd then (if φ 0 = 5 then (-4, φ) else (φ 0, fBr φ a b kd dn)) else ((-2 : Int), φ)).1), g') ∧ ClsF g' 20 (if okB a b kd then (if φ 0 = 5 then (-4, φ) else (φ 0, fBr φ a b kd dn)) else ((-2 : Int), φ)).2 ∧ ∀ x : Nat, ¬ (20 ≤ x ∧ x ≤ 38) → g' x = g x := by
  have h0 := hI.1
  have e1 : g 20 1 = φ 0 := hC.1
  by_cases ok : okB a b kd
  · have hc := c_addBridge_ok hF20 g a b kd dn ok (by omega)
    rw [e1] at hc
    rw [if_pos ok]
    by_cases h5 : φ 0 = 5
    · rw [if_pos h5] at hc
      rw [if_pos h5]
      exact ⟨g, hc, hC, fun _ _ => rfl⟩
    · rw [if_neg h5] at hc
      rw [if_neg h5]
      exact ⟨_, hc, ClsF_cBr hC hI h5, fun x hx => cBr_fr _ _ _ _ _ _ (by omega)⟩
  · rw [if_neg ok]
    exact ⟨g, c_addBridge_bad hF20 _ _ _ _ _ ok, hC, fun _ _ => rfl⟩
theorem c_tell {g : Hp} {φ : Int → Int} (hI : FI φ) (hC : ClsF g 20 φ) {w : Int} (hw : 0 ≤ w ∧ w ≤ 4) {n : Int → Int} (h81 : g 81 1 = w) (hn : ∀ k : Int, 0 ≤ k → k < (cntW w : Int) → g 82 k = n k) : ∃ g', EV 10 qX8_tell 0 [vR 81, vR 20] [] g = some (some (vI (tellF φ w n).1), g') ∧ ClsF g' 20 (tellF φ w n).2 ∧ ∀ x : Nat, ¬ (20 ≤ x ∧ x ≤ 38) → g' x = g x := by
  have h0 := hI.1
  have e1 : g 20 1 = φ 0 := hC.1
  have n0 : g 82 0 = n 0 := hn 0 (by omega) (by unfold cntW; split <;> omega)
  have n1 : g 82 1 = n 1 := hn 1 (by omega) (by unfold cntW; split <;> omega)
  have n2 : w < 3 → g 82 2 = n 2 := fun z => hn 2 (by omega) (by unfold cntW; rw [if_pos z]; omega)
  rw [bX8_tell_0, h81]
  rcases (by omega : w = 0 ∨ w = 1 ∨ w = 2 ∨ w = 3 ∨ w = 4) with rfl | rfl | rfl | rfl | rfl
  · obtain ⟨g', a1, a2, a3⟩ := c_tellBr hI hC (n 0) (n 1) (n 2) 0
    refine ⟨g', ?_, a2, a3⟩
    rw [ev_tabIn (q := qX8_tell) (pc := 4) (t := 36) (off := 32) dX8_tell_4 (by decide) rfl (by decide), bX8_tell_36, n0, n1, n2 (by omega), a1, bnd_some]
    exact bX8_tell_59 _ _
  · obtain ⟨g', a1, a2, a3⟩ := c_tellBr hI hC (n 0) (n 1) (n 2) 1
    refine ⟨g', ?_, a2, a3⟩
    rw [ev_tabIn (q := qX8_tell) (pc := 4) (t := 60) (off := 56) dX8_tell_4 (by decide) rfl (by decide), bX8_tell_60, n0, n1, n2 (by omega), a1, bnd_some]
    exact bX8_tell_83 _ _
  · have st : ∀ (x : Int) (g' : Hp), EV 9 qX2_addChain 0 [vR 20, vI (n 0), vI (n 1), vI (n 2)] [] g = some (some (vI x), g') → EV 10 qX8_tell 4 [vR 81, vR 20] [vI 2] g = some (some (vI x), g') := fun x g' hE => by
      rw [ev_tabIn (q := qX8_tell) (pc := 4) (t := 84) (off := 80) dX8_tell_4 (by decide) rfl (by decide), bX8_tell_84, n0, n1, n2 (by omega), hE, bnd_some]
      exact bX8_tell_106 _ _
    unfold tellF
    rw [if_neg (by omega), if_pos rfl]
    by_cases ok : (0 ≤ n 0 ∧ n 0 ≤ φ 0 - 1) ∧ (0 ≤ n 1 ∧ n 1 ≤ φ 0 - 1) ∧ n 0 ≠ n 1 ∧ (0 ≤ n 2 ∧ n 2 ≤ 9)
    · have hc := c_addChain_ok hF20 g (n 0) (n 1) (n 2) (by rw [hC.2.2.2.1]; exact hI.2.2.2.1) (by rw [e1]; exact ok)
      rw [cTied_eq hC, cTied_eq hC, hC.2.2.2.1] at hc
      rw [if_pos ok]
      by_cases ta : tied01 φ (n 0) = 0
      · rw [if_pos ta] at hc
        rw [if_pos ta]
        by_cases tb : tied01 φ (n 1) = 0
        · rw [if_pos tb] at hc
          rw [if_pos tb]
          by_cases h2 : φ 22 = 2
          · rw [if_pos h2] at hc
            rw [if_pos h2]
            exact ⟨g, st _ _ hc, hC, fun _ _ => rfl⟩
          · rw [if_neg h2] at hc
            rw [if_neg h2]
            exact ⟨_, st _ _ hc, ClsF_cCh hC hI h2, fun x hx => by funext i; unfold cCh; simp (disch := omega) only [up_ne]⟩
        · rw [if_neg tb] at hc
          rw [if_neg tb]
          exact ⟨g, st _ _ hc, hC, fun _ _ => rfl⟩
      · rw [if_neg ta] at hc
        rw [if_neg ta]
        exact ⟨g, st _ _ hc, hC, fun _ _ => rfl⟩
    · rw [if_neg ok]
      exact ⟨g, st _ _ (c_addChain_bad hF20 _ _ _ _ (by rw [e1]; exact ok)), hC, fun _ _ => rfl⟩
  · have st : ∀ (x : Int) (g' : Hp), EV 9 qX2_addPerson 0 [vR 20, vI (n 0), vI (n 1)] [] g = some (some (vI x), g') → EV 10 qX8_tell 4 [vR 81, vR 20] [vI 3] g = some (some (vI x), g') := fun x g' hE => by
      rw [ev_tabIn (q := qX8_tell) (pc := 4) (t := 107) (off := 103) dX8_tell_4 (by decide) rfl (by decide), bX8_tell_107, n0, n1, hE, bnd_some]
      exact bX8_tell_123 _ _
    unfold tellF
    rw [if_neg (by omega), if_neg (by omega), if_pos rfl]
    have e11 : g 20 11 = φ 29 := hC.2.2.2.2.2.1
    by_cases ok : (1 ≤ n 0 ∧ n 0 ≤ 9) ∧ (0 ≤ n 1 ∧ n 1 ≤ 4)
    · have hc := c_addPerson_ok hF20 g (n 0) (n 1) (by rw [e11]; exact hI.2.2.2.2.2.2.1) ok.1 ok.2
      rw [e11] at hc
      rw [if_pos ok]
      by_cases h3 : φ 29 = 3
      · rw [if_pos h3] at hc
        rw [if_pos h3]
        exact ⟨g, st _ _ hc, hC, fun _ _ => rfl⟩
      · rw [if_neg h3] at hc
        rw [if_neg h3]
        exact ⟨_, st _ _ hc, ClsF_cOne hC hI h3, fun x hx => by funext i; unfold cOne; simp (disch := omega) only [up_ne]⟩
    · rw [if_neg ok]
      exact ⟨g, st _ _ (c_addPerson_bad hF20 _ _ _ ok), hC, fun _ _ => rfl⟩
  · have st : ∀ (x : Int) (g' : Hp), EV 9 qX2_setBallast 0 [vR 20, vI (n 0), vI (n 1), vU] [] g = some (some (vI x), g') → EV 10 qX8_tell 4 [vR 81, vR 20] [vI 4] g = some (some (vI x), g') := fun x g' hE => by
      rw [ev_tabOut (q := qX8_tell) (pc := 4) (t := 124) dX8_tell_4 (by decide) (by decide), bX8_tell_124, n0, n1, hE, bnd_some]
      exact bX8_tell_140 _ _
    unfold tellF
    rw [if_neg (by omega), if_neg (by omega), if_neg (by omega)]
    by_cases ok : (0 ≤ n 0 ∧ n 0 ≤ φ 0 - 1) ∧ (0 ≤ n 1 ∧ n 1 ≤ 20)
    · have hc := c_setBallast hF20 g (n 0) (n 1) (by omega) (by rw [e1]; exact ok.1) ok.2
      have qc := hC.2.1 (n 0) ok.1.1 (by omega)
      rw [qc.2.2.2] at hc
      rw [if_pos ok]
      exact ⟨_, st _ _ hc, ClsF_ld hC hI ok.1, fun x hx => by funext i; rw [up_ne (by omega)]⟩
    · rw [if_neg ok]
      exact ⟨g, st _ _ (c_setBallast_bad hF20 _ _ _ (by rw [e1]; exact ok)), hC, fun _ _ => rfl⟩
abbrev frR (g g' : Hp) : Prop := (∀ a : Nat, a ≠ 87 → g' a = g a) ∧ ∀ k, k < 330 → g' 87 k = g 87 k
theorem m_tellBr {g : Hp} {φ : Int → Int} (hI : FI φ) (hφ : rg g 330 = φ) (a b kd dn : Int) : ∃ g', EV 9 qX12_addBridge 0 [vR 86, vI 330, vI a, vI b, vI kd, vI dn, vU] [] g = some (some (vI (if okB a b kd then (if φ 0 = 5 then (-4, φ) else (φ 0, fBr φ a b kd dn)) else ((-2 : Int), φ)).1), g') ∧ rg g' 330 = (if okB a b kd then (if φ 0 = 5 then (-4, φ) else (φ 0, fBr φ a b kd dn)) else ((-2 : Int), φ)).2 ∧ frR g g' := by
  have h0 := hI.1
  have e0 : g 87 330 = φ 0 := by rw [← hφ, rg_0]
  by_cases ok : okB a b kd
  · rw [if_pos ok]
    by_cases h5 : φ 0 = 5
    · rw [if_pos h5]
      exact ⟨g, by rw [e_addBridge_ok _ _ _ _ _ _ ok (by omega), if_pos (by omega)], hφ, fun _ _ => rfl, fun _ _ => rfl⟩
    · rw [if_neg h5]
      refine ⟨_, e_addBridge g 330 a b kd dn (by omega) (by omega) ok (by omega) |>.trans (by rw [e0]), ?_, fun x hx => hBr_fr _ _ _ _ _ _ hx, fun k hk => ?_⟩
      · rw [rg_hBr (by rw [hφ]; exact hI) (by omega), hφ]
      · unfold hBr
        simp (disch := omega) only [up_nei]
  · rw [if_neg ok]
    exact ⟨g, e_addBridge_bad _ _ _ _ _ _ ok, hφ, fun _ _ => rfl, fun _ _ => rfl⟩
theorem m_tellItem {g : Hp} {φ : Int → Int} (hI : FI φ) (hφ : rg g 330 = φ) {w x : Int} (hw : 0 ≤ w ∧ w ≤ 4) (hx : 0 ≤ x ∧ x < 40) {n : Int → Int} (h96 : g 96 x = w) (hn : ∀ k : Int, 0 ≤ k → k < (cntW w : Int) → g 97 (3 * x + k) = n k) : ∃ g', EV 11 qX12_tellItem 0 [vR 86, vI x, vU, vU, vU] [] g = some (some (vI (tellF φ w n).1), g') ∧ rg g' 330 = (tellF φ w n).2 ∧ frR g g' := by
  have h0 := hI.1
  have h22 := hI.2.2.2.1
  have h29 := hI.2.2.2.2.2.2.1
  have e0 : g 87 330 = φ 0 := by rw [← hφ, rg_0]
  have e22 : g 87 (330 + 22) = φ 22 := by rw [← hφ, rg_at]
  have e29 : g 87 (330 + 29) = φ 29 := by rw [← hφ, rg_at]
  have n0 : g 97 (3 * x) = n 0 := by
    have := hn 0 (by omega) (by unfold cntW; split <;> omega)
    rw [Int.add_zero] at this
    exact this
  have n1 : g 97 (3 * x + 1) = n 1 := hn 1 (by omega) (by unfold cntW; split <;> omega)
  have n2 : w < 3 → g 97 (3 * x + 2) = n 2 := fun z => hn 2 (by omega) (by unfold cntW; rw [if_pos z]; omega)
  rw [bX12_tellItem_0 _ _ (by omega) (by omega) (by omega) (by omega) (by omega) (by omega) (by omega) (by omega) (by omega), h96, n0, n1]
  generalize h4 : g 97 (3 * x + 2) = x4
  rcases (by omega : w = 0 ∨ w = 1 ∨ w = 2 ∨ w = 3 ∨ w = 4) with rfl | rfl | rfl | rfl | rfl
  · rw [n2 (by omega)] at h4
    subst h4
    obtain ⟨g', a1, a2, a3⟩ := m_tellBr hI hφ (n 0) (n 1) (n 2) 0
    refine ⟨g', ?_, a2, a3⟩
    rw [ev_tabIn (q := qX12_tellItem) (pc := 38) (t := 68) (off := 30) dX12_tellItem_38 (by decide) rfl (by decide), bX12_tellItem_68, a1, bnd_some]
    exact bX12_tellItem_80 _ _ _ _ _ _
  · rw [n2 (by omega)] at h4
    subst h4
    obtain ⟨g', a1, a2, a3⟩ := m_tellBr hI hφ (n 0) (n 1) (n 2) 1
    refine ⟨g', ?_, a2, a3⟩
    rw [ev_tabIn (q := qX12_tellItem) (pc := 38) (t := 81) (off := 43) dX12_tellItem_38 (by decide) rfl (by decide), bX12_tellItem_81, a1, bnd_some]
    exact bX12_tellItem_93 _ _ _ _ _ _
  · rw [n2 (by omega)] at h4
    subst h4
    have st : ∀ (z : Int) (g' : Hp), EV 10 qX12_addChain 0 [vR 86, vI 330, vI (n 0), vI (n 1), vI (n 2), vU] [] g = some (some (vI z), g') → EV 11 qX12_tellItem 38 [vR 86, vI x, vI (n 0), vI (n 1), vI (n 2)] [vI 2] g = some (some (vI z), g') := fun z g' hE => by
      rw [ev_tabIn (q := qX12_tellItem) (pc := 38) (t := 94) (off := 56) dX12_tellItem_38 (by decide) rfl (by decide), bX12_tellItem_94, hE, bnd_some]
      exact bX12_tellItem_105 _ _ _ _ _ _
    unfold tellF
    rw [if_neg (by omega), if_pos rfl]
    by_cases ok : (0 ≤ n 0 ∧ n 0 ≤ φ 0 - 1) ∧ (0 ≤ n 1 ∧ n 1 ≤ φ 0 - 1) ∧ n 0 ≠ n 1 ∧ (0 ≤ n 2 ∧ n 2 ≤ 9)
    · have hc := e_addChain_ok g 330 (n 0) (n 1) (n 2) (by omega) (by rw [e0]; exact h0) (by rw [e22]; exact h22) (by rw [e0]; exact ok)
      rw [hφ, e22] at hc
      rw [if_pos ok]
      by_cases ta : tied01 φ (n 0) = 0
      · rw [if_pos ta] at hc
        rw [if_pos ta]
        by_cases tb : tied01 φ (n 1) = 0
        · rw [if_pos tb] at hc
          rw [if_pos tb]
          by_cases h2 : φ 22 = 2
          · rw [if_pos h2] at hc
            rw [if_pos h2]
            exact ⟨g, st _ _ hc, hφ, fun _ _ => rfl, fun _ _ => rfl⟩
          · rw [if_neg h2] at hc
            rw [if_neg h2]
            refine ⟨_, st _ _ hc, by rw [rg_hCh, hφ], fun y hy => by funext i; unfold hCh; simp (disch := omega) only [up_ne], fun k hk => ?_⟩
            unfold hCh
            rw [e22]
            simp (disch := omega) only [up_nei]
        · rw [if_neg tb] at hc
          rw [if_neg tb]
          exact ⟨g, st _ _ hc, hφ, fun _ _ => rfl, fun _ _ => rfl⟩
      · rw [if_neg ta] at hc
        rw [if_neg ta]
        exact ⟨g, st _ _ hc, hφ, fun _ _ => rfl, fun _ _ => rfl⟩
    · rw [if_neg ok]
      exact ⟨g, st _ _ (e_addChain_bad _ _ _ _ _ (by omega) (by rw [e0]; exact h0) (by rw [e0]; exact ok)), hφ, fun _ _ => rfl, fun _ _ => rfl⟩
  · have st : ∀ (z : Int) (g' : Hp), EV 9 qX12_addOne 0 [vR 86, vI 330, vI (n 0), vI (n 1), vU] [] g = some (some (vI z), g') → EV 11 qX12_tellItem 38 [vR 86, vI x, vI (n 0), vI (n 1), vI x4] [vI 3] g = some (some (vI z), g') := fun z g' hE => by
      rw [ev_tabIn (q := qX12_tellItem) (pc := 38) (t := 106) (off := 68) dX12_tellItem_38 (by decide) rfl (by decide), bX12_tellItem_106, hE, bnd_some]
      exact bX12_tellItem_115 _ _ _ _ _ _
    unfold tellF
    rw [if_neg (by omega), if_neg (by omega), if_pos rfl]
    by_cases ok : (1 ≤ n 0 ∧ n 0 ≤ 9) ∧ (0 ≤ n 1 ∧ n 1 ≤ 4)
    · rw [if_pos ok]
      by_cases h3 : φ 29 = 3
      · rw [if_pos h3]
        exact ⟨g, st _ _ (by rw [e_addOne_ok _ _ _ _ (by omega) ok.1 ok.2, if_pos (by omega)]), hφ, fun _ _ => rfl, fun _ _ => rfl⟩
      · rw [if_neg h3]
        have hc := e_addOne g 330 (n 0) (n 1) (by omega) (by omega) ok.1 ok.2 (by omega)
        rw [e29] at hc
        refine ⟨_, st _ _ hc, by rw [rg_hOne, hφ], fun y hy => by funext i; unfold hOne; simp (disch := omega) only [up_ne], fun k hk => ?_⟩
        unfold hOne
        rw [e29]
        simp (disch := omega) only [up_nei]
    · rw [if_neg ok]
      exact ⟨g, st _ _ (e_addOne_bad _ _ _ _ ok), hφ, fun _ _ => rfl, fun _ _ => rfl⟩
  · have st : ∀ (z : Int) (g' : Hp), EV 10 qX12_setLoad 0 [vR 86, vI 330, vI (n 0), vI (n 1), vU] [] g = some (some (vI z), g') → EV 11 qX12_tellItem 38 [vR 86, vI x, vI (n 0), vI (n 1), vI x4] [vI 4] g = some (some (vI z), g') := fun z g' hE => by
      rw [ev_tabOut (q := qX12_tellItem) (pc := 38) (t := 116) dX12_tellItem_38 (by decide) (by decide), bX12_tellItem_116, hE, bnd_some]
      exact bX12_tellItem_125 _ _ _ _ _ _
    unfold tellF
    rw [if_neg (by omega), if_neg (by omega), if_neg (by omega)]
    by_cases ok : (0 ≤ n 0 ∧ n 0 ≤ φ 0 - 1) ∧ (0 ≤ n 1 ∧ n 1 ≤ 20)
    · have hc := e_setLoad g 330 (n 0) (n 1) (by omega) (by omega) (by rw [e0]; exact ok.1) ok.2
      rw [if_pos ok]
      have ee : g 87 (330 + 16 + n 0) = φ (16 + n 0) := by
        rw [← hφ, rg_at, show (330 : Int) + 16 + n 0 = 330 + (16 + n 0) by omega]
      rw [ee] at hc
      refine ⟨_, st _ _ hc, ?_, fun y hy => by funext i; rw [up_ne hy], fun k hk => by rw [up_nei (by omega)]⟩
      rw [rg_up, hφ, show (330 : Int) + 16 + n 0 - 330 = 16 + n 0 by omega]
    · rw [if_neg ok]
      exact ⟨g, st _ _ (e_setLoad_bad _ _ _ _ (by omega) (by omega) (by rw [e0]; exact ok)), hφ, fun _ _ => rfl, fun _ _ => rfl⟩
