/-! text: the reference takes an item -/
theorem hs_le (f : Nat → Int) : ∀ n : Nat, (∀ k, k < n → 97 ≤ f k ∧ f k ≤ 122) → 0 ≤ hs f n ∧ hs f n < (32 : Int) ^ n := by
  intro n
  induction n with
  | zero => intro _; exact ⟨Int.le_refl _, by show (0 : Int) < (32 : Int) ^ 0; decide⟩
  | succ n ih =>
    intro h
    have a := ih (fun k hk => h k (by omega))
    have b := h n (by omega)
    show 0 ≤ 32 * hs f n + (f n - 96) ∧ 32 * hs f n + (f n - 96) < (32 : Int) ^ (n + 1)
    rw [Int.pow_succ]
    generalize (32 : Int) ^ n = z at *
    omega
theorem p32 {n : Nat} (h : n ≤ 6) : (32 : Int) ^ n ≤ 1073741824 := by
  rcases (by omega : n = 0 ∨ n = 1 ∨ n = 2 ∨ n = 3 ∨ n = 4 ∨ n = 5 ∨ n = 6) with rfl | rfl | rfl | rfl | rfl | rfl | rfl <;> decide
theorem m_word {b : Int → Int} {L j : Int} (hL : L ≤ 200) (j0 : 0 ≤ j) : ∀ (m n : Nat) (g : Hp), g 89 = b → g 86 3 = L → g 86 16 = j + n → j + n + m = L → (∀ k : Nat, k < n → isC b L (j + k)) → EV 10 qX12_takeItem 7 [vR 86, vI j, vL (hs (fun k => b (j + k)) (min n 7)), vU, vU, vU] [] g = EV 10 qX12_takeItem 89 [vR 86, vI j, vL (hs (fun k => b (j + k)) (min (we b L (j + n) - j).toNat 7)), vU, vU, vU] [] (up g 86 16 (we b L (j + n))) := by
  intro m
  induction m with
  | zero =>
    intro n g h89 h3 h16 hm hc
    have e : we b L (j + n) = j + n := we_no (fun z => by have := z.1; omega)
    rw [bX12_takeItem_7, if_pos (by omega), e, show (j + (n : Int) - j).toNat = n by omega, up_id h16]
  | succ m ih =>
    intro n g h89 h3 h16 hm hc
    rw [bX12_takeItem_7, if_neg (by omega), bX12_takeItem_18 _ _ _ (by omega), e_in, bnd_some, h89, h16]
    show EV 10 qX12_takeItem 37 _ [vI _] _ = _
    rw [bX12_takeItem_37]
    by_cases c : 97 ≤ b (j + n) ∧ b (j + n) ≤ 122
    · have hC : isC b L (j + n) := ⟨by omega, c⟩
      have hc' : ∀ k : Nat, k < n + 1 → isC b L (j + k) := fun k hk => by
        by_cases e : k = n
        · rw [e]; exact hC
        · exact hc k (by omega)
      have e1 : j + ((n + 1 : Nat) : Int) = j + n + 1 := by omega
      have nx := ih (n + 1) (up g 86 16 (j + n + 1)) (by rw [← h89]; funext i; rw [up_ne (by omega)]) (by rw [up_nei (by omega), h3]) (by rw [up_eq, e1]) (by omega) hc'
      rw [e1, up_up, ← we_yes hC] at nx
      rw [if_neg (b01_pos c), bX12_takeItem_40 _ _ _ (by omega), h16]
      by_cases h7 : 7 ≤ j + (n : Int) - j
      · rw [if_pos h7, bX12_takeItem_74, bX12_takeItem_75 _ _ _ _ (by omega), h16]
        rw [show min (n + 1) 7 = min n 7 by omega] at nx
        exact nx
      · have hh := hs_le (fun k => b (j + k)) n (fun k hk => (hc k hk).2)
        have hp := p32 (n := n) (by omega)
        rw [if_neg h7, bX12_takeItem_51 _ _ _ (by omega), h89, h16, show min n 7 = n by omega]
        rw [show min (n + 1) 7 = n + 1 by omega] at nx
        generalize hy : hs (fun k => b (j + k)) n = y at *
        have hs1 : hs (fun k => b (j + k)) (n + 1) = 32 * y + (b (j + n) - 96) := by rw [← hy]; rfl
        rw [hs1] at nx
        rw [w64_id (x := 32 * y) ⟨by omega, by omega⟩, w64_id (x := 32 * y + b (j + n)) ⟨by omega, by omega⟩, w64_id (x := 32 * y + b (j + n) - 96) ⟨by omega, by omega⟩, bX12_takeItem_75 _ _ _ _ (by omega), h16, show 32 * y + b (j + n) - 96 = 32 * y + (b (j + n) - 96) by omega]
        exact nx
    · have e : we b L (j + n) = j + n := we_no (fun z => c z.2)
      rw [if_pos (b01_neg c), e, show (j + (n : Int) - j).toNat = n by omega, up_id h16]
theorem tok_3 {b : Int → Int} {L j : Int} (h : j < L) : ((tok b L j).1 = 3 ↔ b j = 59) ∧ (b j = 59 → (tok b L j).2.2 = j + 1) := by
  unfold tok
  rw [if_neg (by omega)]
  by_cases c1 : isC b L j
  · have := c1.2
    rw [if_pos c1]
    refine ⟨⟨fun z => ?_, fun z => by omega⟩, fun z => by omega⟩
    have z' : (if wdI b j (we b L j) = -1 then (4 : Int) else 1) = 3 := z
    split at z' <;> omega
  · rw [if_neg c1]
    by_cases c2 : isD b L j
    · have := c2.2
      rw [if_pos c2]
      refine ⟨⟨fun z => ?_, fun z => by omega⟩, fun z => by omega⟩
      by_cases c3 : isD b L (j + 1)
      · rw [if_pos c3] at z
        by_cases c4 : isD b L (j + 2)
        · rw [if_pos c4] at z
          have z' : (4 : Int) = 3 := z
          omega
        · rw [if_neg c4] at z
          have z' : (2 : Int) = 3 := z
          omega
      · rw [if_neg c3] at z
        have z' : (2 : Int) = 3 := z
        omega
    · rw [if_neg c2]
      show ((if b j = 59 then (3 : Int) else 4) = 3 ↔ b j = 59) ∧ (b j = 59 → j + 1 = j + 1)
      refine ⟨?_, fun _ => rfl⟩
      by_cases e : b j = 59
      · rw [if_pos e]; exact ⟨fun _ => e, fun _ => rfl⟩
      · rw [if_neg e]; exact ⟨fun z => by omega, fun z => absurd z e⟩
/-- what an item taken leaves as it was -/
def frI (g g' : Hp) (c : Int) : Prop := (∀ a : Nat, a ≠ 86 → a ≠ 96 → a ≠ 97 → g' a = g a) ∧ (∀ i : Int, i ≠ 15 → i ≠ 16 → i ≠ 17 → g' 86 i = g 86 i) ∧ g' 86 15 = c + 1 ∧ (∀ k, k < c → g' 96 k = g 96 k) ∧ (∀ k, k < 3 * c → g' 97 k = g 97 k)
theorem m_ti_out {g : Hp} {c : Int} (h15 : g 86 15 = c) (hc : 0 ≤ c ∧ c < 40) (h16 : 0 ≤ g 86 16 ∧ g 86 16 ≤ 300) (x1 y2 x4 x5 : Int) : EV 10 qX12_takeItem 212 [vR 86, vI x1, vL y2, vU, vI x4, vI x5] [] g = some (none, up (up g 86 16 (g 86 16 + 1)) 86 15 (c + 1)) := by
  rw [bX12_takeItem_212 _ _ _ _ _ (by omega) (by omega), h15]
theorem m_ti_flt {g : Hp} {c f : Int} (h15 : g 86 15 = c) (hc : 0 ≤ c ∧ c < 40) (h16 : 0 ≤ g 86 16 ∧ g 86 16 ≤ 300) (h17 : g 86 17 = f) (hf : f ≠ -1) (x1 y2 x4 x5 : Int) : ∃ g', EV 10 qX12_takeItem 175 [vR 86, vI x1, vL y2, vU, vI x4, vI x5] [] g = some (none, g') ∧ frI g g' c ∧ g' 86 17 = f ∧ g' 96 = g 96 ∧ g' 97 = g 97 := by
  refine ⟨_, by rw [bX12_takeItem_175, if_neg (by omega), m_ti_out h15 hc h16], ⟨fun a x1 _ _ => by funext i; rw [up_ne x1, up_ne x1], fun i x1 x2 _ => by rw [up_nei x1, up_nei x2], by rw [up_eq], fun k _ => by rw [up_ne (by omega), up_ne (by omega)], fun k _ => by rw [up_ne (by omega), up_ne (by omega)]⟩, by rw [up_nei (by omega), up_nei (by omega), h17], by funext i; rw [up_ne (by omega), up_ne (by omega)], by funext i; rw [up_ne (by omega), up_ne (by omega)]⟩
theorem m_ti_loop {b : Int → Int} {L w c : Int} (hL : L ≤ 200) (hb : ∀ k, 0 ≤ k → k < L → 0 ≤ b k ∧ b k ≤ 255) (hw : 0 ≤ w ∧ w ≤ 4) (hc : 0 ≤ c ∧ c < 40) (x1 y2 : Int) : ∀ (m : Nat) (i : Int) (n : Int → Int) (g : Hp), 0 ≤ i → i + m = cntW w → g 89 = b → g 86 3 = L → 0 ≤ g 86 16 ∧ g 86 16 ≤ L → g 86 17 = -1 → g 86 15 = c → (∀ k, 0 ≤ k → k < i → g 97 (3 * c + k) = n k) → ∃ g', EV 10 qX12_takeItem 127 [vR 86, vI x1, vL y2, vU, vI w, vI i] [] g = some (none, g') ∧ frI g g' c ∧ g' 96 = g 96 ∧ (((nP b L m i n (g 86 16)).1 = -1 ∧ g' 86 17 = -1 ∧ g' 86 16 = (nP b L m i n (g 86 16)).2.1 ∧ ∀ k : Int, 0 ≤ k → k < (cntW w : Int) → g' 97 (3 * c + k) = (nP b L m i n (g 86 16)).2.2 k) ∨ ((nP b L m i n (g 86 16)).1 ≠ -1 ∧ g' 86 17 = (nP b L m i n (g 86 16)).1)) := by
  have hcw : (cntW w : Int) = if w < 3 then 3 else 2 := by unfold cntW; split <;> rfl
  have hd : ∀ (i : Int) (g : Hp), EV 10 qX12_takeItem 127 [vR 86, vI x1, vL y2, vU, vI w, vI i] [] g = if (cntW w : Int) ≤ i then EV 10 qX12_takeItem 175 [vR 86, vI x1, vL y2, vU, vI w, vI i] [] g else EV 10 qX12_takeItem 143 [vR 86, vI x1, vL y2, vU, vI w, vI i] [] g := fun i g => by
    rw [bX12_takeItem_127, hcw]
    by_cases c3 : 3 ≤ w
    · rw [if_pos c3, bX12_takeItem_139, bX12_takeItem_140, if_neg (show ¬ w < 3 by omega)]
    · rw [if_neg c3, bX12_takeItem_135, bX12_takeItem_140, if_pos (show w < 3 by omega)]
  intro m
  induction m with
  | zero =>
    intro i n g i0 i1 h89 h3 h16 h17 h15 hn
    obtain ⟨s1, s2⟩ := sp_all (b := b) h16.2
    have hE := m_isEnd (L - g 86 16).toNat g (by omega) (by omega) (by omega)
    rw [h89, h3] at hE
    generalize hj : sp b L (g 86 16) = j at *
    generalize hg1 : up g 86 16 j = g1 at *
    have a3 : g1 86 3 = L := by subst hg1; rw [up_nei (by omega), h3]
    have a16 : g1 86 16 = j := by subst hg1; rw [up_eq]
    have a17 : g1 86 17 = -1 := by subst hg1; rw [up_nei (by omega), h17]
    have a15 : g1 86 15 = c := by subst hg1; rw [up_nei (by omega), h15]
    have ao : ∀ a : Nat, a ≠ 86 → g1 a = g a := fun a ha => by subst hg1; funext k; rw [up_ne ha]
    have ai : ∀ k : Int, k ≠ 16 → g1 86 k = g 86 k := fun k hk => by subst hg1; rw [up_nei hk]
    have a89 : g1 89 = b := by rw [ao 89 (by omega), h89]
    have st : EV 10 qX12_takeItem 127 [vR 86, vI x1, vL y2, vU, vI w, vI i] [] g = if b01 (j = L) = 0 then EV 10 qX12_takeItem 190 [vR 86, vI x1, vL y2, vU, vI w, vI i] [] g1 else EV 10 qX12_takeItem 204 [vR 86, vI x1, vL y2, vU, vI w, vI i] [] g1 := by
      rw [hd, if_pos (by omega), bX12_takeItem_175, if_pos h17, bX12_takeItem_183, hE, bnd_some]
      exact bX12_takeItem_187 _ _ _ _ _ _
    have flt : EV 10 qX12_takeItem 127 [vR 86, vI x1, vL y2, vU, vI w, vI i] [] g = EV 10 qX12_takeItem 204 [vR 86, vI x1, vL y2, vU, vI w, vI i] [] g1 → ¬ (tok b L j).1 = 3 → ∃ g', EV 10 qX12_takeItem 127 [vR 86, vI x1, vL y2, vU, vI w, vI i] [] g = some (none, g') ∧ frI g g' c ∧ g' 96 = g 96 ∧ (((nP b L 0 i n (g 86 16)).1 = -1 ∧ g' 86 17 = -1 ∧ g' 86 16 = (nP b L 0 i n (g 86 16)).2.1 ∧ ∀ k : Int, 0 ≤ k → k < (cntW w : Int) → g' 97 (3 * c + k) = (nP b L 0 i n (g 86 16)).2.2 k) ∨ ((nP b L 0 i n (g 86 16)).1 ≠ -1 ∧ g' 86 17 = (nP b L 0 i n (g 86 16)).1)) := fun q1 q2 => by
      have e : nP b L 0 i n (g 86 16) = (j, 0, n) := by
        rw [← hj]
        exact if_neg (by rw [hj]; exact q2)
      have w15 : up g1 86 17 (g1 86 16) 86 15 = c := by rw [up_nei (by omega), a15]
      have w16 : up g1 86 17 (g1 86 16) 86 16 = j := by rw [up_nei (by omega), a16]
      rw [q1, bX12_takeItem_204, m_ti_out w15 hc (by omega), e]
      refine ⟨_, rfl, ⟨fun a y1 _ _ => by funext k; rw [up_ne y1, up_ne y1, up_ne y1, ao a y1], fun k y1 y2 y3 => by rw [up_nei y1, up_nei y2, up_nei y3, ai k y2], by rw [up_eq], fun k _ => by rw [up_ne (by omega), up_ne (by omega), up_ne (by omega), ao 96 (by omega)], fun k _ => by rw [up_ne (by omega), up_ne (by omega), up_ne (by omega), ao 97 (by omega)]⟩, by funext k; rw [up_ne (by omega), up_ne (by omega), up_ne (by omega), ao 96 (by omega)], Or.inr ⟨by show j ≠ -1; omega, by rw [up_nei (by omega), up_nei (by omega), up_eq, a16]⟩⟩
    by_cases cL : j = L
    · rw [if_neg (b01_pos cL)] at st
      refine flt st (fun z => ?_)
      have := (tok_le (b := b) s2).2.2.2.2.mpr cL
      omega
    · have t3 := tok_3 (b := b) (L := L) (j := j) (by omega)
      rw [if_pos (b01_neg cL), bX12_takeItem_190 _ _ _ _ _ (by omega), a89, a16] at st
      by_cases c59 : b j = 59
      · have e : nP b L 0 i n (g 86 16) = (-1, j + 1, n) := by
          have : nP b L 0 i n (g 86 16) = (-1, (tok b L (sp b L (g 86 16))).2.2, n) := if_pos (by rw [hj]; exact t3.1.mpr c59)
          rw [this, hj, t3.2 c59]
        rw [if_pos c59] at st
        rw [st, m_ti_out a15 hc (by omega), e, a16]
        refine ⟨_, rfl, ⟨fun a y1 _ _ => by funext k; rw [up_ne y1, up_ne y1, ao a y1], fun k y1 y2 y3 => by rw [up_nei y1, up_nei y2, ai k y2], by rw [up_eq], fun k _ => by rw [up_ne (by omega), up_ne (by omega), ao 96 (by omega)], fun k _ => by rw [up_ne (by omega), up_ne (by omega), ao 97 (by omega)]⟩, by funext k; rw [up_ne (by omega), up_ne (by omega), ao 96 (by omega)], Or.inl ⟨rfl, by rw [up_nei (by omega), up_nei (by omega), a17], by rw [up_nei (by omega), up_eq], fun k k0 k1 => ?_⟩⟩
        rw [up_ne (by omega), up_ne (by omega), ao 97 (by omega)]
        exact hn k k0 (by omega)
      · rw [if_neg c59] at st
        exact flt st (fun z => c59 (t3.1.mp z))
  | succ m ih =>
    intro i n g i0 i1 h89 h3 h16 h17 h15 hn
    have hc3 : (cntW w : Int) ≤ 3 := by rw [hcw]; split <;> omega
    obtain ⟨s1, s2⟩ := sp_all (b := b) h16.2
    have tl := tok_le (b := b) s2
    obtain ⟨v, g1, n1, n2, n3, n4⟩ := m_takeNumber hL hb h89 h3 rfl h16
    have f97 : up g1 97 (3 * c + i) v 86 = g1 86 := by funext k; rw [up_ne (by omega)]
    have st : EV 10 qX12_takeItem 127 [vR 86, vI x1, vL y2, vU, vI w, vI i] [] g = EV 10 qX12_takeItem 127 [vR 86, vI x1, vL y2, vU, vI w, vI (i + 1)] [] (up g1 97 (3 * c + i) v) := by
      rw [hd, if_neg (by omega), bX12_takeItem_143, if_pos h17, bX12_takeItem_151 _ _ _ _ _ (by omega) (by omega), n1, bnd_some, h15]
      show EV 10 qX12_takeItem 168 _ [vI _, vI _, vR 97] _ = _
      rw [bX12_takeItem_168 _ _ _ _ _ _ _ (by omega) (by omega)]
    have g15 : g1 86 15 = c := by rw [n2.2 15 (by omega) (by omega), h15]
    have g3 : g1 86 3 = L := by rw [n2.2 3 (by omega) (by omega), h3]
    have tr : ∀ g' : Hp, frI (up g1 97 (3 * c + i) v) g' c → frI g g' c := fun g' hf => by
      refine ⟨fun a y1 y2 y3 => ?_, fun k y1 y2 y3 => ?_, hf.2.2.1, fun k hk => ?_, fun k hk => ?_⟩
      · rw [hf.1 a y1 y2 y3, ← n2.1 a y1]
        funext k
        rw [up_ne y3]
      · rw [hf.2.1 k y1 y2 y3, f97, n2.2 k y2 y3]
      · rw [hf.2.2.2.1 k hk, up_ne (by omega), n2.1 96 (by omega)]
      · rw [hf.2.2.2.2 k hk, up_nei (by omega), n2.1 97 (by omega)]
    have t96 : up g1 97 (3 * c + i) v 96 = g 96 := by funext k; rw [up_ne (by omega), n2.1 96 (by omega)]
    rcases n4 with ⟨z1, z2, z3, z4⟩ | ⟨z1, z2⟩
    · have e : nP b L (m + 1) i n (g 86 16) = nP b L m (i + 1) (fu n i (tok b L (sp b L (g 86 16))).2.1) (tok b L (sp b L (g 86 16))).2.2 := if_pos z1
      obtain ⟨g', b1, b2, b3, b4⟩ := ih (i + 1) (fu n i (tok b L (sp b L (g 86 16))).2.1) (up g1 97 (3 * c + i) v) (by omega) (by omega) (by funext k; rw [up_ne (by omega), n2.1 89 (by omega), h89]) (by rw [f97]; exact g3) (by rw [f97]; exact n3) (by rw [f97, z4, h17]) (by rw [f97]; exact g15) (fun k k0 k1 => by
        by_cases ek : k = i
        · rw [ek, up_eq, fu_eq, z2]
        · rw [up_nei (by omega), fu_ne ek, n2.1 97 (by omega)]
          exact hn k k0 (by omega))
      rw [f97, z3] at b4
      rw [st, e]
      exact ⟨g', b1, tr g' b2, by rw [b3, t96], b4⟩
    · have e : nP b L (m + 1) i n (g 86 16) = (sp b L (g 86 16), 0, n) := if_neg z1
      have to175 : EV 10 qX12_takeItem 127 [vR 86, vI x1, vL y2, vU, vI w, vI (i + 1)] [] (up g1 97 (3 * c + i) v) = EV 10 qX12_takeItem 175 [vR 86, vI x1, vL y2, vU, vI w, vI (i + 1)] [] (up g1 97 (3 * c + i) v) := by
        rw [hd]
        by_cases q : (cntW w : Int) ≤ i + 1
        · rw [if_pos q]
        · rw [if_neg q, bX12_takeItem_143, if_neg (by rw [f97, z2]; omega)]
      obtain ⟨g', b1, b2, b3, b4, b5⟩ := m_ti_flt (g := up g1 97 (3 * c + i) v) (f := sp b L (g 86 16)) (by rw [f97]; exact g15) hc (by rw [f97]; omega) (by rw [f97]; exact z2) (by omega) x1 y2 w (i + 1)
      rw [st, to175, e]
      exact ⟨g', b1, tr g' b2, by rw [b4, t96], Or.inr ⟨by show sp b L (g 86 16) ≠ -1; omega, b3⟩⟩
theorem m_takeItem {g : Hp} {b : Int → Int} {L j c : Int} (hL : L ≤ 200) (hb : ∀ k, 0 ≤ k → k < L → 0 ≤ b k ∧ b k ≤ 255) (h89 : g 89 = b) (h3 : g 86 3 = L) (h16 : g 86 16 = j) (hj : 0 ≤ j ∧ j < L) (h17 : g 86 17 = -1) (h15 : g 86 15 = c) (hc : 0 ≤ c ∧ c < 40) : ∃ g', EV 10 qX12_takeItem 0 [vR 86, vU, vU, vU, vU, vU] [] g = some (none, g') ∧ frI g g' c ∧ (((itP b L j).1 = -1 ∧ g' 86 17 = -1 ∧ g' 86 16 = (itP b L j).2.1 ∧ g' 96 c = (tok b L j).2.1 ∧ ∀ k : Int, 0 ≤ k → k < (cntW (tok b L j).2.1 : Int) → g' 97 (3 * c + k) = (itP b L j).2.2 k) ∨ ((itP b L j).1 ≠ -1 ∧ g' 86 17 = (itP b L j).1)) := by
  have hwd := m_word (b := b) hL hj.1 (L - j).toNat 0 g h89 h3 (by rw [h16]; show j = j + ((0 : Nat) : Int); omega) (by show j + ((0 : Nat) : Int) + _ = L; omega) (fun k hk => by omega)
  obtain ⟨w1, w2, w3⟩ := we_all (b := b) (L := L) (i := j) (by omega)
  rw [show j + ((0 : Nat) : Int) = j by omega] at hwd
  have hs0 : hs (fun k => b (j + k)) (min 0 7) = 0 := rfl
  rw [hs0] at hwd
  have hn : we b L j = j + ((we b L j - j).toNat : Nat) := by omega
  have hWI := wOf_wdI (b := b) hn (fun k hk => (w3 (j + k) (by omega) (by omega)).2)
  generalize hY : hs (fun k => b (j + k)) (min (we b L j - j).toNat 7) = Y at *
  generalize hg1 : up g 86 16 (we b L j) = g1 at *
  have a3 : g1 86 3 = L := by subst hg1; rw [up_nei (by omega), h3]
  have a16 : g1 86 16 = we b L j := by subst hg1; rw [up_eq]
  have a17 : g1 86 17 = -1 := by subst hg1; rw [up_nei (by omega), h17]
  have a15 : g1 86 15 = c := by subst hg1; rw [up_nei (by omega), h15]
  have ao : ∀ a : Nat, a ≠ 86 → g1 a = g a := fun a ha => by subst hg1; funext k; rw [up_ne ha]
  have ai : ∀ k : Int, k ≠ 16 → g1 86 k = g 86 k := fun k hk => by subst hg1; rw [up_nei hk]
  have st : EV 10 qX12_takeItem 0 [vR 86, vU, vU, vU, vU, vU] [] g = if wdI b j (we b L j) = -1 then EV 10 qX12_takeItem 102 [vR 86, vI j, vL Y, vU, vI (wdI b j (we b L j)), vU] [vR 86] g1 else EV 10 qX12_takeItem 106 [vR 86, vI j, vL Y, vU, vI (wdI b j (we b L j)), vU] [vR 86] g1 := by
    rw [bX12_takeItem_0, h16, hwd, bX12_takeItem_89, m_wordOf, bnd_some, hWI]
    exact bX12_takeItem_93 _ _ _ _
  have hwl := wdI_le b j (we b L j)
  have tl := tok_le (b := b) (L := L) (j := j) (by omega)
  have t1 : wdI b j (we b L j) ≠ -1 → tok b L j = (1, wdI b j (we b L j), we b L j) := fun z => by
    have hC : isC b L j := by
      refine Classical.byContradiction (fun q => z ?_)
      have e : we b L j = j := we_no q
      rw [← hWI, ← hY, show (we b L j - j).toNat = 0 by omega]
      rfl
    unfold tok
    rw [if_neg (by omega), if_pos hC, if_neg z]
  have t2 : wdI b j (we b L j) = -1 → (tok b L j).1 ≠ 1 := fun z => by
    unfold tok
    rw [if_neg (by omega)]
    by_cases hC : isC b L j
    · rw [if_pos hC, if_pos z]
      show (4 : Int) ≠ 1
      omega
    · rw [if_neg hC]
      by_cases hD : isD b L j
      · rw [if_pos hD]
        by_cases d1 : isD b L (j + 1)
        · rw [if_pos d1]
          by_cases d2 : isD b L (j + 2)
          · rw [if_pos d2]
            show (4 : Int) ≠ 1
            omega
          · rw [if_neg d2]
            show (2 : Int) ≠ 1
            omega
        · rw [if_neg d1]
          show (2 : Int) ≠ 1
          omega
      · rw [if_neg hD]
        show (if _ then (3 : Int) else 4) ≠ 1
        split <;> omega
  have fr0 : ∀ (s w : Int) (g' : Hp), frI (up (up g1 86 17 s) 96 c w) g' c → frI g g' c := fun s w g' hf => by
    refine ⟨fun a y1 y2 y3 => ?_, fun k y1 y2 y3 => ?_, hf.2.2.1, fun k hk => ?_, fun k hk => ?_⟩
    · rw [hf.1 a y1 y2 y3, ← ao a y1]
      funext k
      rw [up_ne y2, up_ne y1]
    · rw [hf.2.1 k y1 y2 y3, up_ne (by omega), up_nei y3, ai k y2]
    · rw [hf.2.2.2.1 k hk, up_nei (by omega), up_ne (by omega), ao 96 (by omega)]
    · rw [hf.2.2.2.2 k hk, up_ne (by omega), up_ne (by omega), ao 97 (by omega)]
  by_cases c1 : wdI b j (we b L j) = -1
  · have e : itP b L j = (j, 0, fun _ => 0) := if_neg (t2 c1)
    rw [if_pos c1, bX12_takeItem_102, bX12_takeItem_110 _ _ _ _ _ (by omega), a15] at st
    have u15 : up (up g1 86 17 j) 96 c (wdI b j (we b L j)) 86 15 = c := by rw [up_ne (by omega), up_nei (by omega), a15]
    have u16 : up (up g1 86 17 j) 96 c (wdI b j (we b L j)) 86 16 = we b L j := by rw [up_ne (by omega), up_nei (by omega), a16]
    have u17 : up (up g1 86 17 j) 96 c (wdI b j (we b L j)) 86 17 = j := by rw [up_ne (by omega), up_eq]
    obtain ⟨g', b1, b2, b3, b4, b5⟩ := m_ti_flt u15 hc (by omega) u17 (by omega) j Y (wdI b j (we b L j)) 0
    refine ⟨g', ?_, fr0 _ _ g' b2, Or.inr ⟨by rw [e]; show j ≠ -1; omega, by rw [e]; exact b3⟩⟩
    rw [st, bX12_takeItem_127, if_neg (by omega), bX12_takeItem_135, bX12_takeItem_140, if_neg (by omega), bX12_takeItem_143, if_neg (by rw [u17]; omega), b1]
  · have ht := t1 c1
    have e : itP b L j = nP b L (cntW (wdI b j (we b L j))) 0 (fun _ => 0) (we b L j) := by
      unfold itP
      rw [ht, if_pos rfl]
    rw [if_neg c1, bX12_takeItem_106, a17, bX12_takeItem_110 _ _ _ _ _ (by omega), a15] at st
    generalize hw : wdI b j (we b L j) = w at *
    generalize hg2 : up (up g1 86 17 (-1)) 96 c w = g2 at *
    have u86 : ∀ k : Int, k ≠ 17 → g2 86 k = g1 86 k := fun k hk => by subst hg2; rw [up_ne (by omega), up_nei hk]
    have u17 : g2 86 17 = -1 := by subst hg2; rw [up_ne (by omega), up_eq]
    have u96 : g2 96 c = w := by subst hg2; rw [up_eq]
    obtain ⟨g', b1, b2, b3, b4⟩ := m_ti_loop (w := w) hL hb (by omega) hc j Y (cntW w) 0 (fun _ => 0) g2 (by omega) (by omega) (by subst hg2; funext k; rw [up_ne (by omega), up_ne (by omega), ao 89 (by omega), h89]) (by rw [u86 3 (by omega), a3]) (by rw [u86 16 (by omega), a16]; omega) u17 (by rw [u86 15 (by omega), a15]) (fun k k0 k1 => by omega)
    rw [u86 16 (by omega), a16, ← e] at b4
    refine ⟨g', by rw [st, b1], fr0 (-1) w g' (by rw [hg2]; exact b2), ?_⟩
    rcases b4 with z | z
    · refine Or.inl ⟨z.1, z.2.1, z.2.2.1, by rw [b3, u96, ht], ?_⟩
      rw [ht]
      exact z.2.2.2
    · exact Or.inr z
