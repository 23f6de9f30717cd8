/-! text: an item -/
theorem tok_le {b : Int → Int} {L j : Int} (h : j ≤ L) : (0 ≤ (tok b L j).1 ∧ (tok b L j).1 ≤ 4) ∧ (j ≤ (tok b L j).2.2 ∧ (tok b L j).2.2 ≤ L) ∧ ((tok b L j).1 = 2 ∨ (tok b L j).1 = 3 → j + 1 ≤ (tok b L j).2.2) ∧ ((tok b L j).1 = 1 → j + 3 ≤ (tok b L j).2.2 ∧ 0 ≤ (tok b L j).2.1 ∧ (tok b L j).2.1 ≤ 4) ∧ ((tok b L j).1 = 0 ↔ j = L) := by
  unfold tok
  by_cases c0 : j = L
  · rw [if_pos c0]
    show (0 ≤ (0 : Int) ∧ (0 : Int) ≤ 4) ∧ (j ≤ j ∧ j ≤ L) ∧ ((0 : Int) = 2 ∨ (0 : Int) = 3 → _) ∧ ((0 : Int) = 1 → _) ∧ ((0 : Int) = 0 ↔ j = L)
    refine ⟨by omega, by omega, by omega, fun z => absurd z (by omega), by omega⟩
  · rw [if_neg c0]
    by_cases c1 : isC b L j
    · rw [if_pos c1]
      obtain ⟨w1, w2, w3⟩ := we_all (b := b) (L := L) (i := j) h
      have hw := wdI_le b j (we b L j)
      have hlen : wdI b j (we b L j) ≠ -1 → j + 3 ≤ we b L j := by
        unfold wdI
        intro z
        have l0 : (sTxt 200).length = 6 := rfl
        have l1 : (sTxt 201).length = 4 := rfl
        have l2 : (sTxt 202).length = 5 := rfl
        have l3 : (sTxt 203).length = 3 := rfl
        have l4 : (sTxt 204).length = 4 := rfl
        by_cases e0 : wEq (sTxt 200) b j (we b L j)
        · have := e0.1; omega
        · rw [if_neg e0] at z
          by_cases e1 : wEq (sTxt 201) b j (we b L j)
          · have := e1.1; omega
          · rw [if_neg e1] at z
            by_cases e2 : wEq (sTxt 202) b j (we b L j)
            · have := e2.1; omega
            · rw [if_neg e2] at z
              by_cases e3 : wEq (sTxt 203) b j (we b L j)
              · have := e3.1; omega
              · rw [if_neg e3] at z
                by_cases e4 : wEq (sTxt 204) b j (we b L j)
                · have := e4.1; omega
                · rw [if_neg e4] at z
                  exact absurd rfl z
      generalize wdI b j (we b L j) = w at *
      generalize we b L j = e at *
      show (0 ≤ (if w = -1 then (4 : Int) else 1) ∧ (if w = -1 then (4 : Int) else 1) ≤ 4) ∧ (j ≤ e ∧ e ≤ L) ∧ ((if w = -1 then (4 : Int) else 1) = 2 ∨ (if w = -1 then (4 : Int) else 1) = 3 → j + 1 ≤ e) ∧ ((if w = -1 then (4 : Int) else 1) = 1 → j + 3 ≤ e ∧ 0 ≤ w ∧ w ≤ 4) ∧ ((if w = -1 then (4 : Int) else 1) = 0 ↔ j = L)
      by_cases e : w = -1
      · rw [if_pos e]
        omega
      · rw [if_neg e]
        have := hlen e
        omega
    · rw [if_neg c1]
      by_cases c2 : isD b L j
      · have d0 := c2.1
        rw [if_pos c2]
        by_cases c3 : isD b L (j + 1)
        · have d1 := c3.1
          rw [if_pos c3]
          by_cases c4 : isD b L (j + 2)
          · have d2 := c4.1
            rw [if_pos c4]
            show (0 ≤ (4 : Int) ∧ (4 : Int) ≤ 4) ∧ (j ≤ j + 3 ∧ j + 3 ≤ L) ∧ ((4 : Int) = 2 ∨ (4 : Int) = 3 → _) ∧ ((4 : Int) = 1 → _) ∧ ((4 : Int) = 0 ↔ j = L)
            refine ⟨by omega, by omega, by omega, fun z => absurd z (by omega), by omega⟩
          · rw [if_neg c4]
            show (0 ≤ (2 : Int) ∧ (2 : Int) ≤ 4) ∧ (j ≤ j + 2 ∧ j + 2 ≤ L) ∧ ((2 : Int) = 2 ∨ (2 : Int) = 3 → j + 1 ≤ j + 2) ∧ ((2 : Int) = 1 → _) ∧ ((2 : Int) = 0 ↔ j = L)
            refine ⟨by omega, by omega, by omega, fun z => absurd z (by omega), by omega⟩
        · rw [if_neg c3]
          show (0 ≤ (2 : Int) ∧ (2 : Int) ≤ 4) ∧ (j ≤ j + 1 ∧ j + 1 ≤ L) ∧ ((2 : Int) = 2 ∨ (2 : Int) = 3 → j + 1 ≤ j + 1) ∧ ((2 : Int) = 1 → _) ∧ ((2 : Int) = 0 ↔ j = L)
          refine ⟨by omega, by omega, by omega, fun z => absurd z (by omega), by omega⟩
      · rw [if_neg c2]
        show (0 ≤ (if b j = 59 then (3 : Int) else 4) ∧ (if b j = 59 then (3 : Int) else 4) ≤ 4) ∧ (j ≤ j + 1 ∧ j + 1 ≤ L) ∧ ((if b j = 59 then (3 : Int) else 4) = 2 ∨ (if b j = 59 then (3 : Int) else 4) = 3 → j + 1 ≤ j + 1) ∧ ((if b j = 59 then (3 : Int) else 4) = 1 → _) ∧ ((if b j = 59 then (3 : Int) else 4) = 0 ↔ j = L)
        by_cases e : b j = 59
        · rw [if_pos e]
          refine ⟨by omega, by omega, by omega, fun z => absurd z (by omega), by omega⟩
        · rw [if_neg e]
          refine ⟨by omega, by omega, by omega, fun z => absurd z (by omega), by omega⟩
/-- the numbers of an item and its stop: where it is wrong (or -1), where it ends, the numbers -/
def nP (b : Int → Int) (L : Int) : Nat → Int → (Int → Int) → Int → Int × Int × (Int → Int)
  | 0, _, n, e => if (tok b L (sp b L e)).1 = 3 then (-1, (tok b L (sp b L e)).2.2, n) else (sp b L e, 0, n)
  | m + 1, i, n, e => if (tok b L (sp b L e)).1 = 2 then nP b L m (i + 1) (fu n i (tok b L (sp b L e)).2.1) (tok b L (sp b L e)).2.2 else (sp b L e, 0, n)
def cntW (w : Int) : Nat := if w < 3 then 3 else 2
def itP (b : Int → Int) (L j : Int) : Int × Int × (Int → Int) := if (tok b L j).1 = 1 then nP b L (cntW (tok b L j).2.1) 0 (fun _ => 0) (tok b L j).2.2 else (j, 0, fun _ => 0)
theorem nP_le {b : Int → Int} {L : Int} : ∀ (m : Nat) (i : Int) (n : Int → Int) (e : Int), 0 ≤ e → e ≤ L → ((nP b L m i n e).1 = -1 ∧ e + m + 1 ≤ (nP b L m i n e).2.1 ∧ (nP b L m i n e).2.1 ≤ L) ∨ (0 ≤ (nP b L m i n e).1 ∧ (nP b L m i n e).1 ≤ L) := by
  intro m
  induction m with
  | zero =>
    intro i n e h0 h1
    obtain ⟨s1, s2⟩ := sp_all (b := b) h1
    have t := tok_le (b := b) s2
    by_cases c : (tok b L (sp b L e)).1 = 3
    · left
      rw [show nP b L 0 i n e = (-1, (tok b L (sp b L e)).2.2, n) from if_pos c]
      refine ⟨rfl, ?_, t.2.1.2⟩
      have := t.2.2.1 (Or.inr c)
      show e + ((0 : Nat) : Int) + 1 ≤ (tok b L (sp b L e)).2.2
      omega
    · right
      rw [show nP b L 0 i n e = (sp b L e, 0, n) from if_neg c]
      exact ⟨by omega, s2⟩
  | succ m ih =>
    intro i n e h0 h1
    obtain ⟨s1, s2⟩ := sp_all (b := b) h1
    have t := tok_le (b := b) s2
    by_cases c : (tok b L (sp b L e)).1 = 2
    · rw [show nP b L (m + 1) i n e = nP b L m (i + 1) (fu n i (tok b L (sp b L e)).2.1) (tok b L (sp b L e)).2.2 from if_pos c]
      have := t.2.2.1 (Or.inl c)
      rcases ih (i + 1) (fu n i (tok b L (sp b L e)).2.1) (tok b L (sp b L e)).2.2 (by omega) t.2.1.2 with z | z
      · left
        exact ⟨z.1, by omega, z.2.2⟩
      · right
        exact z
    · right
      rw [show nP b L (m + 1) i n e = (sp b L e, 0, n) from if_neg c]
      exact ⟨by omega, s2⟩
theorem itP_le {b : Int → Int} {L j : Int} (h0 : 0 ≤ j) (h1 : j ≤ L) : ((itP b L j).1 = -1 ∧ j + 6 ≤ (itP b L j).2.1 ∧ (itP b L j).2.1 ≤ L ∧ (tok b L j).1 = 1 ∧ (0 ≤ (tok b L j).2.1 ∧ (tok b L j).2.1 ≤ 4)) ∨ (0 ≤ (itP b L j).1 ∧ (itP b L j).1 ≤ L) := by
  have t := tok_le (b := b) h1
  unfold itP
  by_cases c : (tok b L j).1 = 1
  · rw [if_pos c]
    have u := t.2.2.2.1 c
    rcases nP_le (b := b) (cntW (tok b L j).2.1) 0 (fun _ => 0) (tok b L j).2.2 (by omega) t.2.1.2 with z | z
    · left
      have : 2 ≤ cntW (tok b L j).2.1 := by unfold cntW; split <;> omega
      exact ⟨z.1, by omega, z.2.2, c, u.2⟩
    · right
      exact z
  · rw [if_neg c]
    exact Or.inr ⟨h0, h1⟩
def N210 (g : Hp) : Prop := g 210 0 = 3 ∧ g 210 1 = 3 ∧ g 210 2 = 3 ∧ g 210 3 = 2 ∧ g 210 4 = 2
theorem N210.at {g : Hp} (h : N210 g) {w : Int} (hw : 0 ≤ w ∧ w ≤ 4) : g 210 w = (cntW w : Int) := by
  obtain ⟨a, b, c, d, e⟩ := h
  rcases (by omega : w = 0 ∨ w = 1 ∨ w = 2 ∨ w = 3 ∨ w = 4) with rfl | rfl | rfl | rfl | rfl
  · rw [a]; rfl
  · rw [b]; rfl
  · rw [c]; rfl
  · rw [d]; rfl
  · rw [e]; rfl
abbrev frX (g g' : Hp) : Prop := ∀ a : Nat, a ≠ 79 → a ≠ 81 → a ≠ 82 → g' a = g a
theorem c_ri_loop {b : Int → Int} {L w : Int} (hL : L ≤ 200) (hb : ∀ k, 0 ≤ k → k < L → 0 ≤ b k ∧ b k ≤ 255) (hw : 0 ≤ w ∧ w ≤ 4) : ∀ (m : Nat) (i : Int) (n : Int → Int) (g : Hp), 0 ≤ i → i + m = cntW w → g 80 = b → g 79 1 = L → 0 ≤ g 79 4 ∧ g 79 4 ≤ L → g 81 1 = w → N210 g → (∀ k, 0 ≤ k → k < i → g 82 k = n k) → ∃ g', frX g g' ∧ (((nP b L m i n (g 79 4)).1 = -1 ∧ EV 12 qX8_readItem 20 [vR 81, vR 79, vI i] [] g = some (some (vI 1), g') ∧ TkS g' b L (sp b L (nP b L m i n (g 79 4)).2.1) ∧ g' 81 1 = w ∧ ∀ k : Int, 0 ≤ k → k < (cntW w : Int) → g' 82 k = (nP b L m i n (g 79 4)).2.2 k) ∨ ((nP b L m i n (g 79 4)).1 ≠ -1 ∧ EV 12 qX8_readItem 20 [vR 81, vR 79, vI i] [] g = some (some (vI 0), g') ∧ g' 79 1 = L ∧ g' 79 3 = (nP b L m i n (g 79 4)).1)) := by
  intro m
  induction m with
  | zero =>
    intro i n g i0 i1 h80 h1 h4 h81 hN hn
    have h210 := hN.at hw
    obtain ⟨s1, s2⟩ := sp_all (b := b) h4.2
    have tl := tok_le (b := b) s2
    obtain ⟨g1, a1, a2, a3⟩ := c_next (g := g) (by omega) (by omega) (by rw [h80, h1]; exact hb)
    rw [h80, h1] at a2
    have st : EV 12 qX8_readItem 20 [vR 81, vR 79, vI i] [] g = if g1 79 2 = 3 then EV 12 qX8_readItem 76 [vR 81, vR 79, vI i] [] g1 else EV 12 qX8_readItem 74 [vR 81, vR 79, vI i] [] g1 := by
      rw [bX8_readItem_20 _ _ (by rw [h81]; show 0 ≤ w ∧ w < 5; omega), h81, if_pos (by omega), bX8_readItem_62, a1, bnd_some]
      exact bX8_readItem_66 _ _
    rw [st, a2.2.1]
    by_cases c : (tok b L (sp b L (g 79 4))).1 = 3
    · obtain ⟨g2, b1, b2, b3⟩ := c_next (g := g1) (by rw [a2.1]; exact hL) (by rw [a2.1, a2.2.2.2.1]; omega) (by rw [a3 80 (by omega), a2.1, h80]; exact hb)
      rw [a3 80 (by omega), h80, a2.1, a2.2.2.2.1] at b2
      have e : nP b L 0 i n (g 79 4) = (-1, (tok b L (sp b L (g 79 4))).2.2, n) := if_pos c
      refine ⟨g2, fun a x1 x2 x3 => by rw [b3 a x1, a3 a x1], Or.inl ⟨by rw [e], ?_, by rw [e]; exact b2, by rw [b3 81 (by omega), a3 81 (by omega), h81], fun k k0 k1 => ?_⟩⟩
      · rw [if_pos c, bX8_readItem_76, b1, bnd_some]
        exact bX8_readItem_80 _ _
      · rw [e, b3 82 (by omega), a3 82 (by omega)]
        exact hn k k0 (by omega)
    · have e : nP b L 0 i n (g 79 4) = (sp b L (g 79 4), 0, n) := if_neg c
      refine ⟨g1, fun a x1 _ _ => a3 a x1, Or.inr ⟨by rw [e]; show sp b L (g 79 4) ≠ -1; omega, by rw [if_neg c, bX8_readItem_74], a2.1, by rw [e]; exact a2.2.2.1⟩⟩
  | succ m ih =>
    intro i n g i0 i1 h80 h1 h4 h81 hN hn
    have h210 := hN.at hw
    have hc3 : cntW w ≤ 3 := by unfold cntW; split <;> omega
    obtain ⟨s1, s2⟩ := sp_all (b := b) h4.2
    have tl := tok_le (b := b) s2
    obtain ⟨g1, a1, a2, a3⟩ := c_next (g := g) (by omega) (by omega) (by rw [h80, h1]; exact hb)
    rw [h80, h1] at a2
    have st : EV 12 qX8_readItem 20 [vR 81, vR 79, vI i] [] g = if g1 79 2 = 2 then EV 12 qX8_readItem 46 [vR 81, vR 79, vI i] [] g1 else EV 12 qX8_readItem 44 [vR 81, vR 79, vI i] [] g1 := by
      rw [bX8_readItem_20 _ _ (by rw [h81]; show 0 ≤ w ∧ w < 5; omega), h81, if_neg (by omega), bX8_readItem_32, a1, bnd_some]
      exact bX8_readItem_36 _ _
    rw [st, a2.2.1]
    by_cases c : (tok b L (sp b L (g 79 4))).1 = 2
    · have e : nP b L (m + 1) i n (g 79 4) = nP b L m (i + 1) (fu n i (tok b L (sp b L (g 79 4))).2.1) (tok b L (sp b L (g 79 4))).2.2 := if_pos c
      have e5 := a2.2.2.2.2 (Or.inr c)
      have u79 : up g1 82 i (g1 79 5) 79 = g1 79 := by funext k; rw [up_ne (by omega)]
      have u81 : up g1 82 i (g1 79 5) 81 = g 81 := by funext k; rw [up_ne (by omega), a3 81 (by omega)]
      obtain ⟨g2, b1, b2⟩ := ih (i + 1) (fu n i (tok b L (sp b L (g 79 4))).2.1) (up g1 82 i (g1 79 5)) (by omega) (by omega) (by funext k; rw [up_ne (by omega), a3 80 (by omega), h80]) (by rw [u79]; exact a2.1) (by rw [u79, a2.2.2.2.1]; omega) (by rw [u81]; exact h81) (by
        have : up g1 82 i (g1 79 5) 210 = g 210 := by funext k; rw [up_ne (by omega), a3 210 (by omega)]
        unfold N210
        rw [this]
        exact hN) (fun k k0 k1 => by
        by_cases ek : k = i
        · rw [ek, up_eq, fu_eq, e5]
        · rw [up_nei ek, fu_ne ek, a3 82 (by omega)]
          exact hn k k0 (by omega))
      rw [u79, a2.2.2.2.1] at b2
      rw [e, if_pos c, bX8_readItem_46 _ _ (by omega) (by omega)]
      refine ⟨g2, fun a x1 x2 x3 => ?_, b2⟩
      rw [b1 a x1 x2 x3]
      funext k
      rw [up_ne x3, a3 a x1]
    · have e : nP b L (m + 1) i n (g 79 4) = (sp b L (g 79 4), 0, n) := if_neg c
      refine ⟨g1, fun a x1 _ _ => a3 a x1, Or.inr ⟨by rw [e]; show sp b L (g 79 4) ≠ -1; omega, by rw [if_neg c, bX8_readItem_44], a2.1, by rw [e]; exact a2.2.2.1⟩⟩
theorem c_readItem {g : Hp} {b : Int → Int} {L j : Int} (hL : L ≤ 200) (hb : ∀ k, 0 ≤ k → k < L → 0 ≤ b k ∧ b k ≤ 255) (hj : 0 ≤ j ∧ j ≤ L) (h80 : g 80 = b) (hT : TkS g b L j) (hN : N210 g) : ∃ g', frX g g' ∧ (((itP b L j).1 = -1 ∧ EV 12 qX8_readItem 0 [vR 81, vR 79, vU] [] g = some (some (vI 1), g') ∧ TkS g' b L (sp b L (itP b L j).2.1) ∧ g' 81 1 = (tok b L j).2.1 ∧ ∀ k : Int, 0 ≤ k → k < (cntW (tok b L j).2.1 : Int) → g' 82 k = (itP b L j).2.2 k) ∨ ((itP b L j).1 ≠ -1 ∧ EV 12 qX8_readItem 0 [vR 81, vR 79, vU] [] g = some (some (vI 0), g') ∧ g' 79 1 = L ∧ g' 79 3 = (itP b L j).1)) := by
  have tl := tok_le (b := b) hj.2
  by_cases c : (tok b L j).1 = 1
  · have u := tl.2.2.2.1 c
    have e : itP b L j = nP b L (cntW (tok b L j).2.1) 0 (fun _ => 0) (tok b L j).2.2 := if_pos c
    have u79 : up g 81 1 (g 79 5) 79 = g 79 := by funext k; rw [up_ne (by omega)]
    obtain ⟨g1, a1, a2⟩ := c_ri_loop hL hb u.2 (cntW (tok b L j).2.1) 0 (fun _ => 0) (up g 81 1 (g 79 5)) (by omega) (by omega) (by funext k; rw [up_ne (by omega), h80]) (by rw [u79]; exact hT.1) (by rw [u79, hT.2.2.2.1]; omega) (by rw [up_eq]; exact hT.2.2.2.2 (Or.inl c)) (by
      have : up g 81 1 (g 79 5) 210 = g 210 := by funext k; rw [up_ne (by omega)]
      unfold N210
      rw [this]
      exact hN) (fun k k0 k1 => by omega)
    rw [u79, hT.2.2.2.1] at a2
    have st : EV 12 qX8_readItem 0 [vR 81, vR 79, vU] [] g = EV 12 qX8_readItem 20 [vR 81, vR 79, vI 0] [] (up g 81 1 (g 79 5)) := by
      rw [bX8_readItem_0, if_pos (by rw [hT.2.1]; exact c), bX8_readItem_10]
    rw [st, e]
    refine ⟨g1, fun a x1 x2 x3 => ?_, ?_⟩
    · rw [a1 a x1 x2 x3]
      funext k
      rw [up_ne x2]
    · rcases a2 with z | z
      · exact Or.inl z
      · exact Or.inr z
  · have e : itP b L j = (j, 0, fun _ => 0) := if_neg c
    refine ⟨g, fun _ _ _ _ => rfl, Or.inr ⟨by rw [e]; show j ≠ -1; omega, ?_, hT.1, by rw [e]; exact hT.2.2.1⟩⟩
    rw [bX8_readItem_0, if_neg (by rw [hT.2.1]; exact c), bX8_readItem_8]
